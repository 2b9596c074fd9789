/-! methods: names, code, links -/
def pg_mn0 : List (MethodName × ByteArray × Nat × Option FieldType × Nat × Nat) := [
  (⟨"LinkHouse", "<init>", "()V"⟩, prog_1_method_1_code, 2, none, 0, 0),
  (⟨"LinkHouse", "link", "(Z)I"⟩, prog_1_method_5_code, 2, (some .int), 1, 0),
  (⟨"LinkHouse", "runLink", "(Z)I"⟩, prog_1_method_27_code, 3, (some .int), 1, 0),
  (⟨"LinkHouse", "up", "(JJ)J"⟩, prog_1_method_37_code, 4, (some .long), 2, 0),
  (⟨"LinkHouse", "siteWidth", "(J)I"⟩, prog_1_method_39_code, 2, (some .int), 1, 0),
  (⟨"LinkHouse", "merge", "()I"⟩, prog_1_method_6_code, 2, (some .int), 0, 0),
  (⟨"LinkHouse", "publishDraft", "()I"⟩, prog_1_method_28_code, 2, (some .int), 0, 0),
  (⟨"LinkHouse", "forget", "()V"⟩, prog_1_method_9_code, 1, none, 0, 0),
  (⟨"LinkHouse", "pack", "()I"⟩, prog_1_method_10_code, 1, (some .int), 0, 0),
  (⟨"LinkHouse", "near", "(J)J"⟩, prog_1_method_12_code, 4, (some .long), 1, 0),
  (⟨"LinkHouse", "above", "(JJ)Z"⟩, prog_1_method_36_code, 4, (some .boolean), 2, 0),
  (⟨"LinkHouse", "boot", "(Z)I"⟩, prog_1_method_21_code, 3, (some .int), 1, 0),
  (⟨"LinkHouse", "peek", "(J)I"⟩, prog_1_method_22_code, 3, (some .int), 1, 0),
  (⟨"LinkHouse", "flags", "(J)J"⟩, prog_1_method_23_code, 3, (some .long), 1, 0),
  (⟨"LinkHouse", "feed", "(IJ)I"⟩, prog_1_method_2_code, 4, (some .int), 2, 0),
  (⟨"LinkHouse", "add", "()I"⟩, prog_1_method_3_code, 2, (some .int), 0, 0)]
def pg_mn1 : List (MethodName × ByteArray × Nat × Option FieldType × Nat × Nat) := [
  (⟨"LinkHouse", "readFile", "(I)I"⟩, prog_1_method_33_code, 3, (some .int), 1, 0),
  (⟨"LinkHouse", "readArchive", "(II)I"⟩, prog_1_method_34_code, 7, (some .int), 2, 0),
  (⟨"LinkHouse", "memberSize", "(I)I"⟩, prog_1_method_35_code, 7, (some .int), 1, 0),
  (⟨"LinkHouse", "isPower", "(J)Z"⟩, prog_1_method_38_code, 2, (some .boolean), 1, 0),
  (⟨"LinkHouse", "clearFile", "(I)V"⟩, prog_1_method_32_code, 3, none, 1, 0),
  (⟨"LinkHouse", "drop", "()I"⟩, prog_1_method_4_code, 1, (some .int), 0, 0),
  (⟨"LinkHouse", "give", "(J)I"⟩, prog_1_method_7_code, 4, (some .int), 1, 0),
  (⟨"LinkHouse", "readTapeName", "()Z"⟩, prog_1_method_29_code, 4, (some .boolean), 0, 0),
  (⟨"LinkHouse", "wish", "()I"⟩, prog_1_method_8_code, 2, (some .int), 0, 0),
  (⟨"LinkHouse", "named", "()I"⟩, prog_1_method_11_code, 1, (some .int), 0, 0),
  (⟨"LinkHouse", "list", "(II)I"⟩, prog_1_method_13_code, 4, (some .int), 2, 0),
  (⟨"LinkHouse", "objectAt", "(II)LLinkHouse$ObjectFile;"⟩, prog_1_method_31_code, 4, (some (.object "LinkHouse$ObjectFile")), 2, 0),
  (⟨"LinkHouse", "memberAt", "(II)LLinkHouse$ObjectFile;"⟩, prog_1_method_30_code, 4, (some (.object "LinkHouse$ObjectFile")), 2, 0),
  (⟨"LinkHouse", "sum", "(III)J"⟩, prog_1_method_14_code, 8, (some .long), 3, 0),
  (⟨"LinkHouse", "map", "()I"⟩, prog_1_method_15_code, 1, (some .int), 0, 0),
  (⟨"LinkHouse", "address", "()J"⟩, prog_1_method_16_code, 2, (some .long), 0, 0)]
def pg_mn2 : List (MethodName × ByteArray × Nat × Option FieldType × Nat × Nat) := [
  (⟨"LinkHouse", "taken", "(II)Z"⟩, prog_1_method_17_code, 4, (some .boolean), 2, 0),
  (⟨"LinkHouse", "cause", "(II)I"⟩, prog_1_method_18_code, 4, (some .int), 2, 0),
  (⟨"LinkHouse", "section", "(II)I"⟩, prog_1_method_19_code, 4, (some .int), 2, 0),
  (⟨"LinkHouse", "place", "(I)J"⟩, prog_1_method_20_code, 2, (some .long), 1, 0),
  (⟨"LinkHouse", "out", "(I)J"⟩, prog_1_method_24_code, 2, (some .long), 1, 0),
  (⟨"LinkHouse", "look", "(I)J"⟩, prog_1_method_25_code, 2, (some .long), 1, 0),
  (⟨"LinkHouse", "lookAtLink", "(I)J"⟩, prog_1_method_26_code, 4, (some .long), 1, 0),
  (⟨"LinkHouse$Filler", "<init>", "(LLinkHouse$Link;LLinkHouse$Layout;LLinkHouse$Pool;LLinkHouse$Row;)V"⟩, prog_2_method_1_code, 5, none, 4, 1),
  (⟨"LinkHouse$Filler", "write", "()V"⟩, prog_2_method_2_code, 3, none, 0, 1),
  (⟨"LinkHouse$Filler", "writeHead", "()V"⟩, prog_2_method_3_code, 2, none, 0, 1),
  (⟨"LinkHouse$Filler", "writeRow", "(IIIJ)V"⟩, prog_2_method_4_code, 6, none, 4, 1),
  (⟨"LinkHouse$Filler", "spotOf", "(LLinkHouse$Part;)I"⟩, prog_2_method_5_code, 3, (some .int), 1, 1),
  (⟨"LinkHouse$Filler", "fillSites", "()Z"⟩, prog_2_method_6_code, 8, (some .boolean), 0, 1),
  (⟨"LinkHouse$Filler", "fillSite", "(IILLinkHouse$Part;)Z"⟩, prog_2_method_7_code, 15, (some .boolean), 3, 1),
  (⟨"LinkHouse$Filler", "fillShort", "(IILLinkHouse$Part;)Z"⟩, prog_2_method_10_code, 12, (some .boolean), 3, 1),
  (⟨"LinkHouse$Filler", "slotAddress", "(IIZ)J"⟩, prog_2_method_8_code, 4, (some .long), 3, 1)]
def pg_mn3 : List (MethodName × ByteArray × Nat × Option FieldType × Nat × Nat) := [
  (⟨"LinkHouse$Filler", "sumFor", "(IIIJ)J"⟩, prog_2_method_9_code, 9, (some .long), 4, 1),
  (⟨"LinkHouse$Layout", "<init>", "(LLinkHouse$Link;LLinkHouse$Pool;)V"⟩, prog_3_method_1_code, 3, none, 2, 2),
  (⟨"LinkHouse$Layout", "lay", "()V"⟩, prog_3_method_6_code, 3, none, 0, 2),
  (⟨"LinkHouse$Layout", "gather", "()V"⟩, prog_3_method_7_code, 4, none, 0, 2),
  (⟨"LinkHouse$Layout", "findSlots", "()V"⟩, prog_3_method_8_code, 8, none, 0, 2),
  (⟨"LinkHouse$Layout", "findSlot", "(IILLinkHouse$Part;)V"⟩, prog_3_method_9_code, 11, none, 3, 2),
  (⟨"LinkHouse$Layout", "slotOf", "(IIZ)I"⟩, prog_3_method_11_code, 5, (some .int), 3, 2),
  (⟨"LinkHouse$Layout", "slotKey", "(IIZ)I"⟩, prog_3_method_10_code, 5, (some .int), 3, 2),
  (⟨"LinkHouse$Layout", "findSegments", "()V"⟩, prog_3_method_13_code, 3, none, 0, 2),
  (⟨"LinkHouse$Layout", "partAt", "(I)LLinkHouse$Part;"⟩, prog_3_method_2_code, 3, (some (.object "LinkHouse$Part")), 1, 2),
  (⟨"LinkHouse$Layout", "segmentOf", "(LLinkHouse$Part;)I"⟩, prog_3_method_3_code, 2, (some .int), 1, 2),
  (⟨"LinkHouse$Layout", "isLaidCommon", "(LLinkHouse$Name;)Z"⟩, prog_3_method_14_code, 1, (some .boolean), 1, 2),
  (⟨"LinkHouse$Layout", "layText", "()V"⟩, prog_3_method_15_code, 8, none, 0, 2),
  (⟨"LinkHouse$Layout", "countSegments", "()I"⟩, prog_3_method_4_code, 3, (some .int), 0, 2),
  (⟨"LinkHouse$Layout", "layData", "()V"⟩, prog_3_method_16_code, 6, none, 0, 2),
  (⟨"LinkHouse$Layout", "layGroup", "(IJ)J"⟩, prog_3_method_19_code, 8, (some .long), 2, 2)]
def pg_mn4 : List (MethodName × ByteArray × Nat × Option FieldType × Nat × Nat) := [
  (⟨"LinkHouse$Layout", "layTemplate", "(JJ)V"⟩, prog_3_method_17_code, 9, none, 2, 2),
  (⟨"LinkHouse$Layout", "firstOf", "(I)LLinkHouse$Part;"⟩, prog_3_method_18_code, 3, (some (.object "LinkHouse$Part")), 1, 2),
  (⟨"LinkHouse$Layout", "addressOf", "(LLinkHouse$Name;)J"⟩, prog_3_method_20_code, 2, (some .long), 1, 2),
  (⟨"LinkHouse$Layout", "ownAddress", "(I)J"⟩, prog_3_method_21_code, 2, (some .long), 1, 2),
  (⟨"LinkHouse$Layout", "isTooLarge", "()Z"⟩, prog_3_method_5_code, 2, (some .boolean), 0, 2),
  (⟨"LinkHouse$Layout", "slotValue", "(I)J"⟩, prog_3_method_12_code, 6, (some .long), 1, 2),
  (⟨"LinkHouse$Layout", "symbolAddress", "(II)J"⟩, prog_3_method_22_code, 8, (some .long), 2, 2),
  (⟨"LinkHouse$Link", "<init>", "([LLinkHouse$ObjectFile;LLinkHouse$Names;LLinkHouse$Names;LLinkHouse$Row;)V"⟩, prog_4_method_1_code, 6, none, 4, 3),
  (⟨"LinkHouse$Link", "resolve", "(Z)I"⟩, prog_4_method_9_code, 5, (some .int), 1, 3),
  (⟨"LinkHouse$Link", "begin", "()V"⟩, prog_4_method_10_code, 3, none, 0, 3),
  (⟨"LinkHouse$Link", "define", "(LLinkHouse$Name;IILLinkHouse$Part;JJI)V"⟩, prog_4_method_21_code, 10, none, 7, 3),
  (⟨"LinkHouse$Link", "takeObject", "(LLinkHouse$ObjectFile;)Z"⟩, prog_4_method_14_code, 3, (some .boolean), 1, 3),
  (⟨"LinkHouse$Link", "openParts", "(ILLinkHouse$ObjectFile;)V"⟩, prog_4_method_15_code, 6, none, 2, 3),
  (⟨"LinkHouse$Link", "part", "(II)LLinkHouse$Part;"⟩, prog_4_method_3_code, 4, (some (.object "LinkHouse$Part")), 2, 3),
  (⟨"LinkHouse$Link", "enterNames", "(ILLinkHouse$ObjectFile;)V"⟩, prog_4_method_16_code, 5, none, 2, 3),
  (⟨"LinkHouse$Link", "dropGroups", "(ILLinkHouse$ObjectFile;)V"⟩, prog_4_method_17_code, 6, none, 2, 3)]
def pg_mn5 : List (MethodName × ByteArray × Nat × Option FieldType × Nat × Nat) := [
  (⟨"LinkHouse$Link", "nameOf", "(II)LLinkHouse$Name;"⟩, prog_4_method_4_code, 5, (some (.object "LinkHouse$Name")), 2, 3),
  (⟨"LinkHouse$Link", "dropParts", "(ILLinkHouse$ObjectFile;II)V"⟩, prog_4_method_18_code, 7, none, 4, 3),
  (⟨"LinkHouse$Link", "defineNames", "(ILLinkHouse$ObjectFile;)Z"⟩, prog_4_method_19_code, 7, (some .boolean), 2, 3),
  (⟨"LinkHouse$Link", "settle", "(LLinkHouse$Name;ILLinkHouse$ObjectFile;I)Z"⟩, prog_4_method_20_code, 12, (some .boolean), 4, 3),
  (⟨"LinkHouse$Link", "takeMembers", "(I)Z"⟩, prog_4_method_12_code, 7, (some .boolean), 1, 3),
  (⟨"LinkHouse$Link", "firstWanted", "(LLinkHouse$ObjectFile;)I"⟩, prog_4_method_13_code, 4, (some .int), 1, 3),
  (⟨"LinkHouse$Link", "isWanted", "(LLinkHouse$Name;)Z"⟩, prog_4_method_11_code, 1, (some .boolean), 1, 3),
  (⟨"LinkHouse$Link", "defineOwn", "(Ljava/lang/String;I)V"⟩, prog_4_method_22_code, 4, none, 2, 3),
  (⟨"LinkHouse$Link", "isNameLeft", "()Z"⟩, prog_4_method_23_code, 4, (some .boolean), 0, 3),
  (⟨"LinkHouse$Link", "keepReached", "()V"⟩, prog_4_method_24_code, 3, none, 0, 3),
  (⟨"LinkHouse$Link", "definedAt", "(I)LLinkHouse$Name;"⟩, prog_4_method_5_code, 3, (some (.object "LinkHouse$Name")), 1, 3),
  (⟨"LinkHouse$Link", "reachName", "(LLinkHouse$Name;)V"⟩, prog_4_method_25_code, 2, none, 1, 3),
  (⟨"LinkHouse$Link", "reachPart", "(LLinkHouse$Part;)V"⟩, prog_4_method_26_code, 2, none, 1, 3),
  (⟨"LinkHouse$Link", "reachFrom", "(LLinkHouse$Part;)V"⟩, prog_4_method_27_code, 7, none, 1, 3),
  (⟨"LinkHouse$Link", "object", "(I)LLinkHouse$ObjectFile;"⟩, prog_4_method_2_code, 3, (some (.object "LinkHouse$ObjectFile")), 1, 3),
  (⟨"LinkHouse$Link", "reachSymbol", "(II)V"⟩, prog_4_method_28_code, 4, none, 2, 3)]
def pg_mn6 : List (MethodName × ByteArray × Nat × Option FieldType × Nat × Nat) := [
  (⟨"LinkHouse$Link", "partOf", "(II)LLinkHouse$Part;"⟩, prog_4_method_6_code, 8, (some (.object "LinkHouse$Part")), 2, 3),
  (⟨"LinkHouse$Link", "stayingTarget", "(II)LLinkHouse$Part;"⟩, prog_4_method_7_code, 5, (some (.object "LinkHouse$Part")), 2, 3),
  (⟨"LinkHouse$Link", "isShort", "(IILLinkHouse$Part;)Z"⟩, prog_4_method_29_code, 13, (some .boolean), 3, 3),
  (⟨"LinkHouse$Link", "countStaying", "()I"⟩, prog_4_method_8_code, 3, (some .int), 0, 3),
  (⟨"LinkHouse$Memory", "<init>", "()V"⟩, prog_5_method_1_code, 1, none, 0, 4),
  (⟨"LinkHouse$Memory", "rowAt", "(J)I"⟩, prog_5_method_10_code, 4, (some .int), 1, 4),
  (⟨"LinkHouse$Memory", "nearest", "(J)I"⟩, prog_5_method_9_code, 6, (some .int), 1, 4),
  (⟨"LinkHouse$Memory", "valueOf", "(I)J"⟩, prog_5_method_7_code, 2, (some .long), 1, 4),
  (⟨"LinkHouse$Memory", "isName", "(I)Z"⟩, prog_5_method_6_code, 6, (some .boolean), 1, 4),
  (⟨"LinkHouse$Memory", "nameStart", "(I)I"⟩, prog_5_method_8_code, 2, (some .int), 1, 4),
  (⟨"LinkHouse$Memory", "errorOf", "(LLinkHouse$Row;)I"⟩, prog_5_method_2_code, 16, (some .int), 1, 4),
  (⟨"LinkHouse$Memory", "rowError", "(LLinkHouse$Row;IJ)I"⟩, prog_5_method_3_code, 14, (some .int), 3, 4),
  (⟨"LinkHouse$Memory", "load", "(LLinkHouse$Row;)V"⟩, prog_5_method_4_code, 6, none, 1, 4),
  (⟨"LinkHouse$Memory", "findNames", "()V"⟩, prog_5_method_5_code, 11, none, 0, 4),
  (⟨"LinkHouse$Memory", "byteAt", "(J)I"⟩, prog_5_method_11_code, 6, (some .int), 1, 4),
  (⟨"LinkHouse$Memory", "flagsAt", "(J)J"⟩, prog_5_method_12_code, 4, (some .long), 1, 4)]
def pg_mn7 : List (MethodName × ByteArray × Nat × Option FieldType × Nat × Nat) := [
  (⟨"LinkHouse$Name", "<init>", "()V"⟩, prog_6_method_1_code, 1, none, 0, 5),
  (⟨"LinkHouse$Name", "setText", "(Ljava/lang/String;)V"⟩, prog_6_method_5_code, 3, none, 1, 5),
  (⟨"LinkHouse$Name", "wipe", "()V"⟩, prog_6_method_2_code, 1, none, 0, 5),
  (⟨"LinkHouse$Name", "append", "(I)V"⟩, prog_6_method_3_code, 4, none, 1, 5),
  (⟨"LinkHouse$Name", "renew", "(LLinkHouse$Name;)V"⟩, prog_6_method_6_code, 2, none, 1, 5),
  (⟨"LinkHouse$Name", "read", "(LLinkHouse$Row;I)V"⟩, prog_6_method_4_code, 4, none, 2, 5),
  (⟨"LinkHouse$Name", "isMissedOrWished", "()Z"⟩, prog_6_method_8_code, 1, (some .boolean), 0, 5),
  (⟨"LinkHouse$Name", "writeTo", "(LLinkHouse$Row;)V"⟩, prog_6_method_9_code, 5, none, 1, 5),
  (⟨"LinkHouse$Name", "isDefinedByInput", "()Z"⟩, prog_6_method_7_code, 1, (some .boolean), 0, 5),
  (⟨"LinkHouse$Names", "<init>", "(I)V"⟩, prog_7_method_1_code, 2, none, 1, 6),
  (⟨"LinkHouse$Names", "at", "(I)LLinkHouse$Name;"⟩, prog_7_method_2_code, 3, (some (.object "LinkHouse$Name")), 1, 6),
  (⟨"LinkHouse$Names", "enter", "(LLinkHouse$Name;)LLinkHouse$Name;"⟩, prog_7_method_4_code, 3, (some (.object "LinkHouse$Name")), 1, 6),
  (⟨"LinkHouse$Names", "find", "(LLinkHouse$Name;)LLinkHouse$Name;"⟩, prog_7_method_3_code, 4, (some (.object "LinkHouse$Name")), 1, 6),
  (⟨"LinkHouse$ObjectFile", "<init>", "(LLinkHouse$Row;II)V"⟩, prog_8_method_1_code, 4, none, 3, 7),
  (⟨"LinkHouse$ObjectFile", "groupOf", "(J)I"⟩, prog_8_method_12_code, 3, (some .int), 1, 7),
  (⟨"LinkHouse$ObjectFile", "lengthOf", "(I)J"⟩, prog_8_method_8_code, 2, (some .long), 1, 7)]
def pg_mn8 : List (MethodName × ByteArray × Nat × Option FieldType × Nat × Nat) := [
  (⟨"LinkHouse$ObjectFile", "num", "(II)J"⟩, prog_8_method_3_code, 7, (some .long), 2, 7),
  (⟨"LinkHouse$ObjectFile", "alignOf", "(I)J"⟩, prog_8_method_11_code, 2, (some .long), 1, 7),
  (⟨"LinkHouse$ObjectFile", "placeOf", "(I)J"⟩, prog_8_method_7_code, 2, (some .long), 1, 7),
  (⟨"LinkHouse$ObjectFile", "isStrings", "(I)Z"⟩, prog_8_method_34_code, 2, (some .boolean), 1, 7),
  (⟨"LinkHouse$ObjectFile", "bindOf", "(I)I"⟩, prog_8_method_15_code, 2, (some .int), 1, 7),
  (⟨"LinkHouse$ObjectFile", "nameStart", "(I)I"⟩, prog_8_method_20_code, 2, (some .int), 1, 7),
  (⟨"LinkHouse$ObjectFile", "typeOf", "(I)J"⟩, prog_8_method_5_code, 2, (some .long), 1, 7),
  (⟨"LinkHouse$ObjectFile", "infoOf", "(I)J"⟩, prog_8_method_10_code, 2, (some .long), 1, 7),
  (⟨"LinkHouse$ObjectFile", "whereOf", "(I)I"⟩, prog_8_method_17_code, 2, (some .int), 1, 7),
  (⟨"LinkHouse$ObjectFile", "isDefining", "(I)Z"⟩, prog_8_method_19_code, 2, (some .boolean), 1, 7),
  (⟨"LinkHouse$ObjectFile", "targetOf", "(I)I"⟩, prog_8_method_13_code, 4, (some .int), 1, 7),
  (⟨"LinkHouse$ObjectFile", "sitesOf", "(I)I"⟩, prog_8_method_14_code, 2, (some .int), 1, 7),
  (⟨"LinkHouse$ObjectFile", "valueOf", "(I)J"⟩, prog_8_method_18_code, 2, (some .long), 1, 7),
  (⟨"LinkHouse$ObjectFile", "kindOf", "(I)I"⟩, prog_8_method_16_code, 2, (some .int), 1, 7),
  (⟨"LinkHouse$ObjectFile", "flagsOf", "(I)J"⟩, prog_8_method_6_code, 2, (some .long), 1, 7),
  (⟨"LinkHouse$ObjectFile", "open", "(III)V"⟩, prog_8_method_2_code, 4, none, 3, 7)]
def pg_mn9 : List (MethodName × ByteArray × Nat × Option FieldType × Nat × Nat) := [
  (⟨"LinkHouse$ObjectFile", "readError", "([I)I"⟩, prog_8_method_21_code, 4, (some .int), 1, 7),
  (⟨"LinkHouse$ObjectFile", "isHeadGood", "()Z"⟩, prog_8_method_22_code, 2, (some .boolean), 0, 7),
  (⟨"LinkHouse$ObjectFile", "areRowsGood", "()Z"⟩, prog_8_method_23_code, 4, (some .boolean), 0, 7),
  (⟨"LinkHouse$ObjectFile", "holds", "(JJ)Z"⟩, prog_8_method_4_code, 5, (some .boolean), 2, 7),
  (⟨"LinkHouse$ObjectFile", "sectionsError", "()I"⟩, prog_8_method_24_code, 7, (some .int), 0, 7),
  (⟨"LinkHouse$ObjectFile", "findGroup", "(JJ)I"⟩, prog_8_method_25_code, 4, (some .int), 2, 7),
  (⟨"LinkHouse$ObjectFile", "findSymbols", "()Z"⟩, prog_8_method_26_code, 5, (some .boolean), 0, 7),
  (⟨"LinkHouse$ObjectFile", "linkOf", "(I)J"⟩, prog_8_method_9_code, 2, (some .long), 1, 7),
  (⟨"LinkHouse$ObjectFile", "isSymbolGood", "(I)Z"⟩, prog_8_method_27_code, 5, (some .boolean), 1, 7),
  (⟨"LinkHouse$ObjectFile", "isNameGood", "(I)Z"⟩, prog_8_method_28_code, 5, (some .boolean), 1, 7),
  (⟨"LinkHouse$ObjectFile", "areSitesGood", "([I)Z"⟩, prog_8_method_29_code, 7, (some .boolean), 1, 7),
  (⟨"LinkHouse$ObjectFile", "isSiteGood", "(II[I)Z"⟩, prog_8_method_30_code, 11, (some .boolean), 3, 7),
  (⟨"LinkHouse$ObjectFile", "areGroupsGood", "()Z"⟩, prog_8_method_31_code, 11, (some .boolean), 0, 7),
  (⟨"LinkHouse$ObjectFile", "findStrings", "()V"⟩, prog_8_method_32_code, 3, none, 0, 7),
  (⟨"LinkHouse$ObjectFile", "isStringRow", "(I)Z"⟩, prog_8_method_33_code, 4, (some .boolean), 1, 7),
  (⟨"LinkHouse$Part", "<init>", "()V"⟩, prog_9_method_1_code, 1, none, 0, 8)]
def pg_mn10 : List (MethodName × ByteArray × Nat × Option FieldType × Nat × Nat) := [
  (⟨"LinkHouse$Pool", "<init>", "(LLinkHouse$Row;)V"⟩, prog_10_method_1_code, 2, none, 1, 9),
  (⟨"LinkHouse$Pool", "clear", "()V"⟩, prog_10_method_2_code, 1, none, 0, 9),
  (⟨"LinkHouse$Pool", "collect", "(LLinkHouse$Part;)V"⟩, prog_10_method_3_code, 5, none, 1, 9),
  (⟨"LinkHouse$Pool", "admit", "(II)V"⟩, prog_10_method_4_code, 5, none, 2, 9),
  (⟨"LinkHouse$Pool", "isEnd", "(IIII)Z"⟩, prog_10_method_5_code, 8, (some .boolean), 4, 9),
  (⟨"LinkHouse$Pool", "addressIn", "(LLinkHouse$Part;J)J"⟩, prog_10_method_6_code, 11, (some .long), 2, 9),
  (⟨"LinkHouse$Row", "<init>", "(I)V"⟩, prog_11_method_1_code, 2, none, 1, 10),
  (⟨"LinkHouse$Row", "at", "(I)I"⟩, prog_11_method_3_code, 2, (some .int), 1, 10),
  (⟨"LinkHouse$Row", "clear", "()V"⟩, prog_11_method_2_code, 1, none, 0, 10),
  (⟨"LinkHouse$Row", "putAll", "([B)V"⟩, prog_11_method_10_code, 3, none, 1, 10),
  (⟨"LinkHouse$Row", "put", "(IJ)V"⟩, prog_11_method_8_code, 5, none, 2, 10),
  (⟨"LinkHouse$Row", "fillTo", "(JI)V"⟩, prog_11_method_14_code, 5, none, 2, 10),
  (⟨"LinkHouse$Row", "cover", "(I[BII)V"⟩, prog_11_method_16_code, 5, none, 4, 10),
  (⟨"LinkHouse$Row", "set", "(IIJ)V"⟩, prog_11_method_13_code, 7, none, 3, 10),
  (⟨"LinkHouse$Row", "copy", "([BII)V"⟩, prog_11_method_15_code, 4, none, 3, 10),
  (⟨"LinkHouse$Row", "putDecimal", "(I)V"⟩, prog_11_method_11_code, 3, none, 1, 10)]
def pg_mn11 : List (MethodName × ByteArray × Nat × Option FieldType × Nat × Nat) := [
  (⟨"LinkHouse$Row", "putHighestFirst", "(I)V"⟩, prog_11_method_9_code, 3, none, 1, 10),
  (⟨"LinkHouse$Row", "num", "(II)J"⟩, prog_11_method_4_code, 6, (some .long), 2, 10),
  (⟨"LinkHouse$Row", "nameLength", "(II)I"⟩, prog_11_method_6_code, 4, (some .int), 2, 10),
  (⟨"LinkHouse$Row", "begins", "([B)Z"⟩, prog_11_method_7_code, 3, (some .boolean), 1, 10),
  (⟨"LinkHouse$Row", "holds", "(JJ)Z"⟩, prog_11_method_5_code, 5, (some .boolean), 2, 10),
  (⟨"LinkHouse$Row", "putHex", "(J)V"⟩, prog_11_method_12_code, 5, none, 1, 10),
  (⟨"LinkHouse$Scribe", "<init>", "(LLinkHouse$Link;LLinkHouse$Layout;LLinkHouse$Row;)V"⟩, prog_12_method_1_code, 4, none, 3, 11),
  (⟨"LinkHouse$Scribe", "writeMerged", "(LLinkHouse$Row;)Z"⟩, prog_12_method_10_code, 4, (some .boolean), 1, 11),
  (⟨"LinkHouse$Scribe", "numberParts", "()I"⟩, prog_12_method_11_code, 5, (some .int), 0, 11),
  (⟨"LinkHouse$Scribe", "numberSymbols", "()I"⟩, prog_12_method_12_code, 6, (some .int), 0, 11),
  (⟨"LinkHouse$Scribe", "listName", "(LLinkHouse$Name;)V"⟩, prog_12_method_13_code, 2, none, 1, 11),
  (⟨"LinkHouse$Scribe", "mergeParts", "(LLinkHouse$Row;I)V"⟩, prog_12_method_14_code, 8, none, 2, 11),
  (⟨"LinkHouse$Scribe", "nextPlace", "(LLinkHouse$Row;)I"⟩, prog_12_method_17_code, 1, (some .int), 1, 11),
  (⟨"LinkHouse$Scribe", "putRow", "(JJJJII)V"⟩, prog_12_method_18_code, 11, none, 6, 11),
  (⟨"LinkHouse$Scribe", "endRow", "(JI)V"⟩, prog_12_method_19_code, 4, none, 2, 11),
  (⟨"LinkHouse$Scribe", "mergeSites", "(LLinkHouse$Row;I)V"⟩, prog_12_method_15_code, 9, none, 2, 11)]
def pg_mn12 : List (MethodName × ByteArray × Nat × Option FieldType × Nat × Nat) := [
  (⟨"LinkHouse$Scribe", "freshSymbol", "(II)I"⟩, prog_12_method_16_code, 5, (some .int), 2, 11),
  (⟨"LinkHouse$Scribe", "mergeSymbols", "(LLinkHouse$Row;)V"⟩, prog_12_method_20_code, 6, none, 1, 11),
  (⟨"LinkHouse$Scribe", "mergeLocal", "(LLinkHouse$Row;II)V"⟩, prog_12_method_21_code, 10, none, 3, 11),
  (⟨"LinkHouse$Scribe", "putSymbol", "(LLinkHouse$Row;IIIJJ)V"⟩, prog_12_method_23_code, 8, none, 6, 11),
  (⟨"LinkHouse$Scribe", "mergeName", "(LLinkHouse$Row;LLinkHouse$Name;I)V"⟩, prog_12_method_22_code, 5, none, 3, 11),
  (⟨"LinkHouse$Scribe", "mergeNames", "(LLinkHouse$Row;)V"⟩, prog_12_method_24_code, 4, none, 1, 11),
  (⟨"LinkHouse$Scribe", "writePacked", "(LLinkHouse$Row;[LLinkHouse$ObjectFile;)Z"⟩, prog_12_method_5_code, 9, (some .boolean), 2, 11),
  (⟨"LinkHouse$Scribe", "isObject", "(LLinkHouse$ObjectFile;)Z"⟩, prog_12_method_6_code, 1, (some .boolean), 1, 11),
  (⟨"LinkHouse$Scribe", "writeIndex", "(LLinkHouse$Row;[LLinkHouse$ObjectFile;II)V"⟩, prog_12_method_7_code, 10, none, 4, 11),
  (⟨"LinkHouse$Scribe", "writeAhead", "(LLinkHouse$Row;II)V"⟩, prog_12_method_9_code, 3, none, 3, 11),
  (⟨"LinkHouse$Scribe", "writeObjects", "(LLinkHouse$Row;[LLinkHouse$ObjectFile;)V"⟩, prog_12_method_8_code, 7, none, 2, 11),
  (⟨"LinkHouse$Scribe", "writeNamed", "(LLinkHouse$Row;LLinkHouse$Row;)Z"⟩, prog_12_method_25_code, 8, (some .boolean), 2, 11),
  (⟨"LinkHouse$Scribe", "rowOf", "(LLinkHouse$Name;)I"⟩, prog_12_method_26_code, 7, (some .int), 1, 11),
  (⟨"LinkHouse$Scribe", "writeSegmentRows", "()V"⟩, prog_12_method_27_code, 2, none, 0, 11),
  (⟨"LinkHouse$Scribe", "writeList", "(LLinkHouse$Row;LLinkHouse$ObjectFile;)V"⟩, prog_12_method_2_code, 4, none, 2, 11),
  (⟨"LinkHouse$Scribe", "letterOf", "(LLinkHouse$ObjectFile;I)I"⟩, prog_12_method_3_code, 6, (some .int), 2, 11)]
def pg_mn13 : List (MethodName × ByteArray × Nat × Option FieldType × Nat × Nat) := [
  (⟨"LinkHouse$Scribe", "writeMap", "(LLinkHouse$Row;)Z"⟩, prog_12_method_4_code, 4, (some .boolean), 1, 11),
  (⟨"LinkHouseModel", "<init>", "()V"⟩, prog_14_method_1_code, 1, none, 0, 12),
  (⟨"LinkHouseModel", "thrown", "()I"⟩, prog_14_method_2_code, 1, (some .int), 0, 12),
  (⟨"LinkHouseModel", "feed", "(IJ)I"⟩, prog_14_method_4_code, 6, (some .int), 2, 12),
  (⟨"LinkHouseModel", "throwing", "(ZZ)Z"⟩, prog_14_method_3_code, 3, (some .boolean), 2, 12),
  (⟨"LinkHouseModel", "add", "()I"⟩, prog_14_method_47_code, 3, (some .int), 0, 12),
  (⟨"LinkHouseModel", "fileError", "(II)I"⟩, prog_14_method_46_code, 6, (some .int), 2, 12),
  (⟨"LinkHouseModel", "num", "(II)J"⟩, prog_14_method_5_code, 6, (some .long), 2, 12),
  (⟨"LinkHouseModel", "objectError", "(II)I"⟩, prog_14_method_44_code, 6, (some .int), 2, 12),
  (⟨"LinkHouseModel", "isHeader", "(I)Z"⟩, prog_14_method_28_code, 3, (some .boolean), 1, 12),
  (⟨"LinkHouseModel", "sections", "(I)I"⟩, prog_14_method_6_code, 2, (some .int), 1, 12),
  (⟨"LinkHouseModel", "lies", "(JJJ)Z"⟩, prog_14_method_27_code, 6, (some .boolean), 3, 12),
  (⟨"LinkHouseModel", "type", "(II)J"⟩, prog_14_method_8_code, 3, (some .long), 2, 12),
  (⟨"LinkHouseModel", "row", "(II)I"⟩, prog_14_method_7_code, 3, (some .int), 2, 12),
  (⟨"LinkHouseModel", "sectionError", "(III)I"⟩, prog_14_method_29_code, 5, (some .int), 3, 12),
  (⟨"LinkHouseModel", "beginning", "(II)J"⟩, prog_14_method_10_code, 3, (some .long), 2, 12)]
def pg_mn14 : List (MethodName × ByteArray × Nat × Option FieldType × Nat × Nat) := [
  (⟨"LinkHouseModel", "size", "(II)J"⟩, prog_14_method_11_code, 3, (some .long), 2, 12),
  (⟨"LinkHouseModel", "isKept", "(II)Z"⟩, prog_14_method_15_code, 3, (some .boolean), 2, 12),
  (⟨"LinkHouseModel", "flagsOf", "(II)J"⟩, prog_14_method_9_code, 3, (some .long), 2, 12),
  (⟨"LinkHouseModel", "align", "(II)J"⟩, prog_14_method_14_code, 3, (some .long), 2, 12),
  (⟨"LinkHouseModel", "isPower", "(J)Z"⟩, prog_14_method_26_code, 2, (some .boolean), 1, 12),
  (⟨"LinkHouseModel", "symbolsError", "(I)I"⟩, prog_14_method_30_code, 7, (some .int), 1, 12),
  (⟨"LinkHouseModel", "symbols", "(I)I"⟩, prog_14_method_17_code, 3, (some .int), 1, 12),
  (⟨"LinkHouseModel", "linkOf", "(II)J"⟩, prog_14_method_12_code, 3, (some .long), 2, 12),
  (⟨"LinkHouseModel", "symbolMany", "(I)I"⟩, prog_14_method_18_code, 3, (some .int), 1, 12),
  (⟨"LinkHouseModel", "isSymbol", "(II)Z"⟩, prog_14_method_31_code, 6, (some .boolean), 2, 12),
  (⟨"LinkHouseModel", "where", "(II)I"⟩, prog_14_method_21_code, 3, (some .int), 2, 12),
  (⟨"LinkHouseModel", "symbol", "(II)I"⟩, prog_14_method_19_code, 3, (some .int), 2, 12),
  (⟨"LinkHouseModel", "bind", "(II)I"⟩, prog_14_method_20_code, 3, (some .int), 2, 12),
  (⟨"LinkHouseModel", "isName", "(II)Z"⟩, prog_14_method_32_code, 9, (some .boolean), 2, 12),
  (⟨"LinkHouseModel", "value", "(II)J"⟩, prog_14_method_22_code, 3, (some .long), 2, 12),
  (⟨"LinkHouseModel", "symbolSize", "(II)J"⟩, prog_14_method_23_code, 3, (some .long), 2, 12)]
def pg_mn15 : List (MethodName × ByteArray × Nat × Option FieldType × Nat × Nat) := [
  (⟨"LinkHouseModel", "sitesError", "(I)I"⟩, prog_14_method_39_code, 4, (some .int), 1, 12),
  (⟨"LinkHouseModel", "isSites", "(II)Z"⟩, prog_14_method_35_code, 3, (some .boolean), 2, 12),
  (⟨"LinkHouseModel", "info", "(II)J"⟩, prog_14_method_13_code, 3, (some .long), 2, 12),
  (⟨"LinkHouseModel", "siteMany", "(II)I"⟩, prog_14_method_36_code, 3, (some .int), 2, 12),
  (⟨"LinkHouseModel", "isSite", "(III)Z"⟩, prog_14_method_38_code, 12, (some .boolean), 3, 12),
  (⟨"LinkHouseModel", "site", "(III)I"⟩, prog_14_method_37_code, 4, (some .int), 3, 12),
  (⟨"LinkHouseModel", "width", "(J)I"⟩, prog_14_method_34_code, 2, (some .int), 1, 12),
  (⟨"LinkHouseModel", "isSlotted", "(J)Z"⟩, prog_14_method_33_code, 2, (some .boolean), 1, 12),
  (⟨"LinkHouseModel", "groupsError", "(I)I"⟩, prog_14_method_43_code, 3, (some .int), 1, 12),
  (⟨"LinkHouseModel", "isGroup", "(II)Z"⟩, prog_14_method_40_code, 3, (some .boolean), 2, 12),
  (⟨"LinkHouseModel", "isGroupRight", "(II)Z"⟩, prog_14_method_42_code, 7, (some .boolean), 2, 12),
  (⟨"LinkHouseModel", "groupNumber", "(III)J"⟩, prog_14_method_41_code, 4, (some .long), 3, 12),
  (⟨"LinkHouseModel", "isMembers", "(II)Z"⟩, prog_14_method_45_code, 9, (some .boolean), 2, 12),
  (⟨"LinkHouseModel", "drop", "()I"⟩, prog_14_method_48_code, 1, (some .int), 0, 12),
  (⟨"LinkHouseModel", "give", "(J)I"⟩, prog_14_method_57_code, 7, (some .int), 1, 12),
  (⟨"LinkHouseModel", "isTapeName", "()Z"⟩, prog_14_method_56_code, 3, (some .boolean), 0, 12)]
def pg_mn16 : List (MethodName × ByteArray × Nat × Option FieldType × Nat × Nat) := [
  (⟨"LinkHouseModel", "toldAt", "([B[II)I"⟩, prog_14_method_55_code, 7, (some .int), 3, 12),
  (⟨"LinkHouseModel", "wish", "()I"⟩, prog_14_method_58_code, 5, (some .int), 0, 12),
  (⟨"LinkHouseModel", "forget", "()V"⟩, prog_14_method_59_code, 1, none, 0, 12),
  (⟨"LinkHouseModel", "link", "(Z)I"⟩, prog_14_method_115_code, 3, (some .int), 1, 12),
  (⟨"LinkHouseModel", "tellNames", "()V"⟩, prog_14_method_53_code, 3, none, 0, 12),
  (⟨"LinkHouseModel", "entered", "([BII)I"⟩, prog_14_method_51_code, 6, (some .int), 3, 12),
  (⟨"LinkHouseModel", "find", "([BII)I"⟩, prog_14_method_49_code, 7, (some .int), 3, 12),
  (⟨"LinkHouseModel", "takeAll", "()V"⟩, prog_14_method_70_code, 2, none, 0, 12),
  (⟨"LinkHouseModel", "takeFrom", "(I)V"⟩, prog_14_method_69_code, 6, none, 1, 12),
  (⟨"LinkHouseModel", "helps", "(I)I"⟩, prog_14_method_68_code, 5, (some .int), 1, 12),
  (⟨"LinkHouseModel", "nameOf", "(II)I"⟩, prog_14_method_50_code, 3, (some .int), 2, 12),
  (⟨"LinkHouseModel", "nameAt", "(II)I"⟩, prog_14_method_24_code, 3, (some .int), 2, 12),
  (⟨"LinkHouseModel", "nameEnd", "(II)I"⟩, prog_14_method_25_code, 4, (some .int), 2, 12),
  (⟨"LinkHouseModel", "take", "(I)V"⟩, prog_14_method_67_code, 6, none, 1, 12),
  (⟨"LinkHouseModel", "dropGroups", "(I)V"⟩, prog_14_method_66_code, 5, none, 1, 12),
  (⟨"LinkHouseModel", "object", "(I)I"⟩, prog_14_method_71_code, 2, (some .int), 1, 12)]
def pg_mn17 : List (MethodName × ByteArray × Nat × Option FieldType × Nat × Nat) := [
  (⟨"LinkHouseModel", "isAgain", "(II)Z"⟩, prog_14_method_65_code, 8, (some .boolean), 2, 12),
  (⟨"LinkHouseModel", "enter", "(II)I"⟩, prog_14_method_52_code, 3, (some .int), 2, 12),
  (⟨"LinkHouseModel", "come", "(III)Z"⟩, prog_14_method_63_code, 6, (some .boolean), 3, 12),
  (⟨"LinkHouseModel", "strengthOf", "(II)I"⟩, prog_14_method_61_code, 3, (some .int), 2, 12),
  (⟨"LinkHouseModel", "whereNow", "(II)I"⟩, prog_14_method_60_code, 4, (some .int), 2, 12),
  (⟨"LinkHouseModel", "say", "([BII)V"⟩, prog_14_method_64_code, 5, none, 3, 12),
  (⟨"LinkHouseModel", "ownNames", "()V"⟩, prog_14_method_72_code, 4, none, 0, 12),
  (⟨"LinkHouseModel", "look2", "()V"⟩, prog_14_method_83_code, 5, none, 0, 12),
  (⟨"LinkHouseModel", "start", "()I"⟩, prog_14_method_84_code, 2, (some .int), 0, 12),
  (⟨"LinkHouseModel", "reach", "()V"⟩, prog_14_method_76_code, 3, none, 0, 12),
  (⟨"LinkHouseModel", "reachName", "(I)V"⟩, prog_14_method_74_code, 2, none, 1, 12),
  (⟨"LinkHouseModel", "isGiven", "(I)Z"⟩, prog_14_method_54_code, 2, (some .boolean), 1, 12),
  (⟨"LinkHouseModel", "reachSection", "(II)V"⟩, prog_14_method_73_code, 3, none, 2, 12),
  (⟨"LinkHouseModel", "reachSites", "(I)V"⟩, prog_14_method_75_code, 6, none, 1, 12),
  (⟨"LinkHouseModel", "lay", "()V"⟩, prog_14_method_86_code, 6, none, 0, 12),
  (⟨"LinkHouseModel", "stays", "(II)Z"⟩, prog_14_method_62_code, 3, (some .boolean), 2, 12)]
def pg_mn18 : List (MethodName × ByteArray × Nat × Option FieldType × Nat × Nat) := [
  (⟨"LinkHouseModel", "group", "(II)I"⟩, prog_14_method_16_code, 4, (some .int), 2, 12),
  (⟨"LinkHouseModel", "findPool", "()V"⟩, prog_14_method_93_code, 7, none, 0, 12),
  (⟨"LinkHouseModel", "isStrings", "(II)Z"⟩, prog_14_method_89_code, 5, (some .boolean), 2, 12),
  (⟨"LinkHouseModel", "nodeOf", "(IIZ)I"⟩, prog_14_method_91_code, 6, (some .int), 3, 12),
  (⟨"LinkHouseModel", "childOf", "(IBZ)I"⟩, prog_14_method_90_code, 5, (some .int), 3, 12),
  (⟨"LinkHouseModel", "toPool", "(II)V"⟩, prog_14_method_92_code, 6, none, 2, 12),
  (⟨"LinkHouseModel", "findSlots", "()V"⟩, prog_14_method_82_code, 8, none, 0, 12),
  (⟨"LinkHouseModel", "isShort", "(III)Z"⟩, prog_14_method_81_code, 4, (some .boolean), 3, 12),
  (⟨"LinkHouseModel", "shortKind", "(III)I"⟩, prog_14_method_80_code, 13, (some .int), 3, 12),
  (⟨"LinkHouseModel", "isInside", "(II)Z"⟩, prog_14_method_78_code, 5, (some .boolean), 2, 12),
  (⟨"LinkHouseModel", "isSectionNow", "(II)Z"⟩, prog_14_method_79_code, 3, (some .boolean), 2, 12),
  (⟨"LinkHouseModel", "slotOf", "(IIZ)I"⟩, prog_14_method_77_code, 7, (some .int), 3, 12),
  (⟨"LinkHouseModel", "layout", "()V"⟩, prog_14_method_102_code, 4, none, 0, 12),
  (⟨"LinkHouseModel", "findSegments", "()V"⟩, prog_14_method_95_code, 3, none, 0, 12),
  (⟨"LinkHouseModel", "segmentOf", "(I)I"⟩, prog_14_method_87_code, 1, (some .int), 1, 12),
  (⟨"LinkHouseModel", "isCommon", "(I)Z"⟩, prog_14_method_88_code, 2, (some .boolean), 1, 12)]
def pg_mn19 : List (MethodName × ByteArray × Nat × Option FieldType × Nat × Nat) := [
  (⟨"LinkHouseModel", "isThreaded", "()Z"⟩, prog_14_method_99_code, 3, (some .boolean), 0, 12),
  (⟨"LinkHouseModel", "placeSegment", "(IJ)V"⟩, prog_14_method_101_code, 10, none, 2, 12),
  (⟨"LinkHouseModel", "up", "(JJ)J"⟩, prog_14_method_85_code, 4, (some .long), 2, 12),
  (⟨"LinkHouseModel", "placeGroup", "(IJZ)J"⟩, prog_14_method_96_code, 10, (some .long), 3, 12),
  (⟨"LinkHouseModel", "placeStrings", "(J)J"⟩, prog_14_method_98_code, 5, (some .long), 1, 12),
  (⟨"LinkHouseModel", "byteAddress", "(IIJ)J"⟩, prog_14_method_94_code, 7, (some .long), 3, 12),
  (⟨"LinkHouseModel", "placeCommons", "(JZ)J"⟩, prog_14_method_97_code, 8, (some .long), 2, 12),
  (⟨"LinkHouseModel", "findTemplate", "()V"⟩, prog_14_method_100_code, 7, none, 0, 12),
  (⟨"LinkHouseModel", "ownAddress", "(I)J"⟩, prog_14_method_103_code, 2, (some .long), 1, 12),
  (⟨"LinkHouseModel", "own", "(II)J"⟩, prog_14_method_104_code, 5, (some .long), 2, 12),
  (⟨"LinkHouseModel", "sites", "(Z)V"⟩, prog_14_method_110_code, 6, none, 1, 12),
  (⟨"LinkHouseModel", "one", "(IIIZ)V"⟩, prog_14_method_111_code, 11, none, 4, 12),
  (⟨"LinkHouseModel", "siteValue", "(III)J"⟩, prog_14_method_108_code, 12, (some .long), 3, 12),
  (⟨"LinkHouseModel", "symbolAddress", "(II)J"⟩, prog_14_method_105_code, 3, (some .long), 2, 12),
  (⟨"LinkHouseModel", "siteAddress", "(III)J"⟩, prog_14_method_106_code, 4, (some .long), 3, 12),
  (⟨"LinkHouseModel", "isOfStrings", "(II)Z"⟩, prog_14_method_107_code, 5, (some .boolean), 2, 12)]
def pg_mn20 : List (MethodName × ByteArray × Nat × Option FieldType × Nat × Nat) := [
  (⟨"LinkHouseModel", "fillSite", "(IJII)V"⟩, prog_14_method_112_code, 6, none, 4, 12),
  (⟨"LinkHouseModel", "put", "(IJI)V"⟩, prog_14_method_113_code, 6, none, 3, 12),
  (⟨"LinkHouseModel", "runsOver", "(JJ)Z"⟩, prog_14_method_109_code, 5, (some .boolean), 2, 12),
  (⟨"LinkHouseModel", "write", "()V"⟩, prog_14_method_114_code, 7, none, 0, 12),
  (⟨"LinkHouseModel", "keepLink", "()V"⟩, prog_14_method_116_code, 6, none, 0, 12),
  (⟨"LinkHouseModel", "named", "()I"⟩, prog_14_method_118_code, 11, (some .int), 0, 12),
  (⟨"LinkHouseModel", "wider", "(I)I"⟩, prog_14_method_129_code, 2, (some .int), 1, 12),
  (⟨"LinkHouseModel", "numberOf", "(I)I"⟩, prog_14_method_117_code, 4, (some .int), 1, 12),
  (⟨"LinkHouseModel", "namedSegment", "(II)V"⟩, prog_14_method_119_code, 3, none, 2, 12),
  (⟨"LinkHouseModel", "cause", "(II)I"⟩, prog_14_method_120_code, 4, (some .int), 2, 12),
  (⟨"LinkHouseModel", "sum", "(III)J"⟩, prog_14_method_121_code, 9, (some .long), 3, 12),
  (⟨"LinkHouseModel", "merge", "()I"⟩, prog_14_method_140_code, 2, (some .int), 0, 12),
  (⟨"LinkHouseModel", "merges", "()Z"⟩, prog_14_method_132_code, 3, (some .boolean), 0, 12),
  (⟨"LinkHouseModel", "countParts", "()V"⟩, prog_14_method_123_code, 4, none, 0, 12),
  (⟨"LinkHouseModel", "part", "(II)V"⟩, prog_14_method_122_code, 3, none, 2, 12),
  (⟨"LinkHouseModel", "countSymbols", "()V"⟩, prog_14_method_125_code, 3, none, 0, 12)]
def pg_mn21 : List (MethodName × ByteArray × Nat × Option FieldType × Nat × Nat) := [
  (⟨"LinkHouseModel", "numberName", "(I)V"⟩, prog_14_method_124_code, 2, none, 1, 12),
  (⟨"LinkHouseModel", "mergedRow", "(I)I"⟩, prog_14_method_131_code, 2, (some .int), 1, 12),
  (⟨"LinkHouseModel", "placeOf", "(I)I"⟩, prog_14_method_130_code, 4, (some .int), 1, 12),
  (⟨"LinkHouseModel", "partSize", "(I)I"⟩, prog_14_method_127_code, 2, (some .int), 1, 12),
  (⟨"LinkHouseModel", "isPart", "(IJ)Z"⟩, prog_14_method_126_code, 4, (some .boolean), 2, 12),
  (⟨"LinkHouseModel", "textMany", "()I"⟩, prog_14_method_128_code, 3, (some .int), 0, 12),
  (⟨"LinkHouseModel", "mergedSites", "(I)V"⟩, prog_14_method_135_code, 7, none, 1, 12),
  (⟨"LinkHouseModel", "mergedRows", "(IJJIIJJ)V"⟩, prog_14_method_133_code, 13, none, 7, 12),
  (⟨"LinkHouseModel", "mergedSection", "(I)V"⟩, prog_14_method_134_code, 5, none, 1, 12),
  (⟨"LinkHouseModel", "mergedLocals", "()V"⟩, prog_14_method_137_code, 7, none, 0, 12),
  (⟨"LinkHouseModel", "mergedSymbol", "(IIIJJ)V"⟩, prog_14_method_136_code, 9, none, 5, 12),
  (⟨"LinkHouseModel", "mergedNames", "()V"⟩, prog_14_method_138_code, 5, none, 0, 12),
  (⟨"LinkHouseModel", "mergedDefinition", "(III)V"⟩, prog_14_method_139_code, 6, none, 3, 12),
  (⟨"LinkHouseModel", "pack", "()I"⟩, prog_14_method_146_code, 12, (some .int), 0, 12),
  (⟨"LinkHouseModel", "findObjects", "()V"⟩, prog_14_method_141_code, 3, none, 0, 12),
  (⟨"LinkHouseModel", "isDefining", "(II)Z"⟩, prog_14_method_142_code, 3, (some .boolean), 2, 12)]
def pg_mn22 : List (MethodName × ByteArray × Nat × Option FieldType × Nat × Nat) := [
  (⟨"LinkHouseModel", "ahead", "(II)V"⟩, prog_14_method_144_code, 4, none, 2, 12),
  (⟨"LinkHouseModel", "digits", "(II)V"⟩, prog_14_method_143_code, 5, none, 2, 12),
  (⟨"LinkHouseModel", "highFirst", "(II)V"⟩, prog_14_method_145_code, 4, none, 2, 12),
  (⟨"LinkHouseModel", "list", "(II)I"⟩, prog_14_method_149_code, 7, (some .int), 2, 12),
  (⟨"LinkHouseModel", "sixteen", "(IJ)V"⟩, prog_14_method_147_code, 6, none, 2, 12),
  (⟨"LinkHouseModel", "letterOf", "(II)I"⟩, prog_14_method_148_code, 6, (some .int), 2, 12),
  (⟨"LinkHouseModel", "map", "()I"⟩, prog_14_method_152_code, 5, (some .int), 0, 12),
  (⟨"LinkHouseModel", "wide", "(I)I"⟩, prog_14_method_150_code, 1, (some .int), 1, 12),
  (⟨"LinkHouseModel", "sayNumber", "(II)V"⟩, prog_14_method_151_code, 3, none, 2, 12),
  (⟨"LinkHouseModel", "boot", "(Z)I"⟩, prog_14_method_157_code, 3, (some .int), 1, 12),
  (⟨"LinkHouseModel", "triedError", "()I"⟩, prog_14_method_156_code, 7, (some .int), 0, 12),
  (⟨"LinkHouseModel", "isExecutable", "()Z"⟩, prog_14_method_154_code, 2, (some .boolean), 0, 12),
  (⟨"LinkHouseModel", "triedNum", "(II)J"⟩, prog_14_method_153_code, 6, (some .long), 2, 12),
  (⟨"LinkHouseModel", "rowError", "(I)I"⟩, prog_14_method_155_code, 13, (some .int), 1, 12),
  (⟨"LinkHouseModel", "findMemoryNames", "()V"⟩, prog_14_method_158_code, 18, none, 0, 12),
  (⟨"LinkHouseModel", "memorySymbol", "(IJJ)V"⟩, prog_14_method_159_code, 10, none, 3, 12)]
def pg_mn23 : List (MethodName × ByteArray × Nat × Option FieldType × Nat × Nat) := [
  (⟨"LinkHouseModel", "near", "(J)J"⟩, prog_14_method_160_code, 6, (some .long), 1, 12),
  (⟨"LinkHouseModel", "rowOf", "(J)I"⟩, prog_14_method_161_code, 4, (some .int), 1, 12),
  (⟨"LinkHouseModel", "peek", "(J)I"⟩, prog_14_method_162_code, 6, (some .int), 1, 12),
  (⟨"LinkHouseModel", "flags", "(J)J"⟩, prog_14_method_163_code, 4, (some .long), 1, 12),
  (⟨"LinkHouseModel", "address", "()J"⟩, prog_14_method_164_code, 2, (some .long), 0, 12),
  (⟨"LinkHouseModel", "taken", "(II)Z"⟩, prog_14_method_165_code, 3, (some .boolean), 2, 12),
  (⟨"LinkHouseModel", "section", "(II)I"⟩, prog_14_method_166_code, 3, (some .int), 2, 12),
  (⟨"LinkHouseModel", "place", "(I)J"⟩, prog_14_method_167_code, 2, (some .long), 1, 12),
  (⟨"LinkHouseModel", "out", "(I)J"⟩, prog_14_method_168_code, 5, (some .long), 1, 12),
  (⟨"LinkHouseModel", "look", "(I)J"⟩, prog_14_method_169_code, 2, (some .long), 1, 12),
  (⟨"java/util/Arrays", "fill", "([IIII)V"⟩, prog_29_method_104_code, 5, none, 4, 17),
  (⟨"java/util/Arrays", "rangeCheck", "(III)V"⟩, prog_29_method_30_code, 3, none, 3, 17),
  (⟨"java/util/Arrays", "fill", "([JJ)V"⟩, prog_29_method_101_code, 5, none, 2, 17),
  (⟨"java/util/Arrays", "fill", "([BIIB)V"⟩, prog_29_method_110_code, 5, none, 4, 17),
  (⟨"LinkHouseLaw", "feed", "(LLinkHouse;IJ[J)I"⟩, method_3_code, 6, (some .int), 4, 16),
  (⟨"LinkHouseLaw", "add", "(LLinkHouse;[J)I"⟩, method_4_code, 3, (some .int), 2, 16)]
def pg_mn24 : List (MethodName × ByteArray × Nat × Option FieldType × Nat × Nat) := [
  (⟨"LinkHouseLaw", "drop", "(LLinkHouse;[J)I"⟩, method_5_code, 3, (some .int), 2, 16),
  (⟨"LinkHouseLaw", "give", "(LLinkHouse;J[J)I"⟩, method_6_code, 5, (some .int), 3, 16),
  (⟨"LinkHouseLaw", "wish", "(LLinkHouse;[J)I"⟩, method_7_code, 3, (some .int), 2, 16),
  (⟨"LinkHouseLaw", "named", "(LLinkHouse;[J)I"⟩, method_8_code, 3, (some .int), 2, 16),
  (⟨"LinkHouseLaw", "list", "(LLinkHouse;II[J)I"⟩, method_9_code, 5, (some .int), 4, 16),
  (⟨"LinkHouseLaw", "sum", "(LLinkHouse;III[J)I"⟩, method_10_code, 6, (some .int), 5, 16),
  (⟨"LinkHouseLaw", "map", "(LLinkHouse;[J)I"⟩, method_11_code, 3, (some .int), 2, 16),
  (⟨"LinkHouseLaw", "address", "(LLinkHouse;[J)I"⟩, method_12_code, 3, (some .int), 2, 16),
  (⟨"LinkHouseLaw", "taken", "(LLinkHouse;II[J)I"⟩, method_13_code, 5, (some .int), 4, 16),
  (⟨"LinkHouseLaw", "cause", "(LLinkHouse;II[J)I"⟩, method_14_code, 5, (some .int), 4, 16),
  (⟨"LinkHouseLaw", "section", "(LLinkHouse;II[J)I"⟩, method_15_code, 5, (some .int), 4, 16),
  (⟨"LinkHouseLaw", "place", "(LLinkHouse;I[J)I"⟩, method_16_code, 4, (some .int), 3, 16),
  (⟨"LinkHouseLaw", "out", "(LLinkHouse;I[J)I"⟩, method_17_code, 4, (some .int), 3, 16),
  (⟨"LinkHouseLaw", "look", "(LLinkHouse;I[J)I"⟩, method_18_code, 4, (some .int), 3, 16),
  (⟨"LinkHouseLaw", "law", "([I)Z"⟩, code, 8, (some .boolean), 1, 16)]
def pg_mm : List (List (MethodName × ByteArray × Nat × Option FieldType × Nat × Nat)) := [pg_mn0, pg_mn1, pg_mn2, pg_mn3, pg_mn4, pg_mn5, pg_mn6, pg_mn7, pg_mn8, pg_mn9, pg_mn10, pg_mn11, pg_mn12, pg_mn13, pg_mn14, pg_mn15, pg_mn16, pg_mn17, pg_mn18, pg_mn19, pg_mn20, pg_mn21, pg_mn22, pg_mn23, pg_mn24]
def pg_mx (mi : Nat) : MethodName × ByteArray × Nat × Option FieldType × Nat × Nat := (pg_mm.getD (mi / 16) []).getD (mi % 16) (⟨"", "", ""⟩, ⟨#[]⟩, 0, none, 0, 0)
def pg_mn (mi : Nat) : MethodName := (pg_mx mi).1
def pg_by (mi : Nat) : ByteArray := (pg_mx mi).2.1
def pg_ml (mi : Nat) : Nat := (pg_mx mi).2.2.1
def pg_rt (mi : Nat) : Option FieldType := (pg_mx mi).2.2.2.1
def pg_np (mi : Nat) : Nat := (pg_mx mi).2.2.2.2.1
def pg_oc (mi : Nat) : Nat := (pg_mx mi).2.2.2.2.2
abbrev m_H_init : Nat := 0
abbrev m_H_link : Nat := 1
abbrev m_H_runLink : Nat := 2
abbrev m_H_up : Nat := 3
abbrev m_H_siteWidth : Nat := 4
abbrev m_H_merge : Nat := 5
abbrev m_H_publishDraft : Nat := 6
abbrev m_H_forget : Nat := 7
abbrev m_H_pack : Nat := 8
abbrev m_H_near : Nat := 9
abbrev m_H_above : Nat := 10
abbrev m_H_boot : Nat := 11
abbrev m_H_peek : Nat := 12
abbrev m_H_flags : Nat := 13
abbrev m_H_feed : Nat := 14
abbrev m_H_add : Nat := 15
abbrev m_H_readFile : Nat := 16
abbrev m_H_readArchive : Nat := 17
abbrev m_H_memberSize : Nat := 18
abbrev m_H_isPower : Nat := 19
abbrev m_H_clearFile : Nat := 20
abbrev m_H_drop : Nat := 21
abbrev m_H_give : Nat := 22
abbrev m_H_readTapeName : Nat := 23
abbrev m_H_wish : Nat := 24
abbrev m_H_named : Nat := 25
abbrev m_H_list : Nat := 26
abbrev m_H_objectAt : Nat := 27
abbrev m_H_memberAt : Nat := 28
abbrev m_H_sum : Nat := 29
abbrev m_H_map : Nat := 30
abbrev m_H_address : Nat := 31
abbrev m_H_taken : Nat := 32
abbrev m_H_cause : Nat := 33
abbrev m_H_section : Nat := 34
abbrev m_H_place : Nat := 35
abbrev m_H_out : Nat := 36
abbrev m_H_look : Nat := 37
abbrev m_H_lookAtLink : Nat := 38
abbrev m_Filler_init : Nat := 39
abbrev m_Filler_write : Nat := 40
abbrev m_Filler_writeHead : Nat := 41
abbrev m_Filler_writeRow : Nat := 42
abbrev m_Filler_spotOf : Nat := 43
abbrev m_Filler_fillSites : Nat := 44
abbrev m_Filler_fillSite : Nat := 45
abbrev m_Filler_fillShort : Nat := 46
abbrev m_Filler_slotAddress : Nat := 47
abbrev m_Filler_sumFor : Nat := 48
abbrev m_Layout_init : Nat := 49
abbrev m_Layout_lay : Nat := 50
abbrev m_Layout_gather : Nat := 51
abbrev m_Layout_findSlots : Nat := 52
abbrev m_Layout_findSlot : Nat := 53
abbrev m_Layout_slotOf : Nat := 54
abbrev m_Layout_slotKey : Nat := 55
abbrev m_Layout_findSegments : Nat := 56
abbrev m_Layout_partAt : Nat := 57
abbrev m_Layout_segmentOf : Nat := 58
abbrev m_Layout_isLaidCommon : Nat := 59
abbrev m_Layout_layText : Nat := 60
abbrev m_Layout_countSegments : Nat := 61
abbrev m_Layout_layData : Nat := 62
abbrev m_Layout_layGroup : Nat := 63
abbrev m_Layout_layTemplate : Nat := 64
abbrev m_Layout_firstOf : Nat := 65
abbrev m_Layout_addressOf : Nat := 66
abbrev m_Layout_ownAddress : Nat := 67
abbrev m_Layout_isTooLarge : Nat := 68
abbrev m_Layout_slotValue : Nat := 69
abbrev m_Layout_symbolAddress : Nat := 70
abbrev m_Link_init : Nat := 71
abbrev m_Link_resolve : Nat := 72
abbrev m_Link_begin : Nat := 73
abbrev m_Link_define : Nat := 74
abbrev m_Link_takeObject : Nat := 75
abbrev m_Link_openParts : Nat := 76
abbrev m_Link_part : Nat := 77
abbrev m_Link_enterNames : Nat := 78
abbrev m_Link_dropGroups : Nat := 79
abbrev m_Link_nameOf : Nat := 80
abbrev m_Link_dropParts : Nat := 81
abbrev m_Link_defineNames : Nat := 82
abbrev m_Link_settle : Nat := 83
abbrev m_Link_takeMembers : Nat := 84
abbrev m_Link_firstWanted : Nat := 85
abbrev m_Link_isWanted : Nat := 86
abbrev m_Link_defineOwn : Nat := 87
abbrev m_Link_isNameLeft : Nat := 88
abbrev m_Link_keepReached : Nat := 89
abbrev m_Link_definedAt : Nat := 90
abbrev m_Link_reachName : Nat := 91
abbrev m_Link_reachPart : Nat := 92
abbrev m_Link_reachFrom : Nat := 93
abbrev m_Link_object : Nat := 94
abbrev m_Link_reachSymbol : Nat := 95
abbrev m_Link_partOf : Nat := 96
abbrev m_Link_stayingTarget : Nat := 97
abbrev m_Link_isShort : Nat := 98
abbrev m_Link_countStaying : Nat := 99
abbrev m_Memory_init : Nat := 100
abbrev m_Memory_rowAt : Nat := 101
abbrev m_Memory_nearest : Nat := 102
abbrev m_Memory_valueOf : Nat := 103
abbrev m_Memory_isName : Nat := 104
abbrev m_Memory_nameStart : Nat := 105
abbrev m_Memory_errorOf : Nat := 106
abbrev m_Memory_rowError : Nat := 107
abbrev m_Memory_load : Nat := 108
abbrev m_Memory_findNames : Nat := 109
abbrev m_Memory_byteAt : Nat := 110
abbrev m_Memory_flagsAt : Nat := 111
abbrev m_Name_init : Nat := 112
abbrev m_Name_setText : Nat := 113
abbrev m_Name_wipe : Nat := 114
abbrev m_Name_append : Nat := 115
abbrev m_Name_renew : Nat := 116
abbrev m_Name_read : Nat := 117
abbrev m_Name_isMissedOrWished : Nat := 118
abbrev m_Name_writeTo : Nat := 119
abbrev m_Name_isDefinedByInput : Nat := 120
abbrev m_Names_init : Nat := 121
abbrev m_Names_at : Nat := 122
abbrev m_Names_enter : Nat := 123
abbrev m_Names_find : Nat := 124
abbrev m_ObjectFile_init : Nat := 125
abbrev m_ObjectFile_groupOf : Nat := 126
abbrev m_ObjectFile_lengthOf : Nat := 127
abbrev m_ObjectFile_num : Nat := 128
abbrev m_ObjectFile_alignOf : Nat := 129
abbrev m_ObjectFile_placeOf : Nat := 130
abbrev m_ObjectFile_isStrings : Nat := 131
abbrev m_ObjectFile_bindOf : Nat := 132
abbrev m_ObjectFile_nameStart : Nat := 133
abbrev m_ObjectFile_typeOf : Nat := 134
abbrev m_ObjectFile_infoOf : Nat := 135
abbrev m_ObjectFile_whereOf : Nat := 136
abbrev m_ObjectFile_isDefining : Nat := 137
abbrev m_ObjectFile_targetOf : Nat := 138
abbrev m_ObjectFile_sitesOf : Nat := 139
abbrev m_ObjectFile_valueOf : Nat := 140
abbrev m_ObjectFile_kindOf : Nat := 141
abbrev m_ObjectFile_flagsOf : Nat := 142
abbrev m_ObjectFile_open : Nat := 143
abbrev m_ObjectFile_readError : Nat := 144
abbrev m_ObjectFile_isHeadGood : Nat := 145
abbrev m_ObjectFile_areRowsGood : Nat := 146
abbrev m_ObjectFile_holds : Nat := 147
abbrev m_ObjectFile_sectionsError : Nat := 148
abbrev m_ObjectFile_findGroup : Nat := 149
abbrev m_ObjectFile_findSymbols : Nat := 150
abbrev m_ObjectFile_linkOf : Nat := 151
abbrev m_ObjectFile_isSymbolGood : Nat := 152
abbrev m_ObjectFile_isNameGood : Nat := 153
abbrev m_ObjectFile_areSitesGood : Nat := 154
abbrev m_ObjectFile_isSiteGood : Nat := 155
abbrev m_ObjectFile_areGroupsGood : Nat := 156
abbrev m_ObjectFile_findStrings : Nat := 157
abbrev m_ObjectFile_isStringRow : Nat := 158
abbrev m_Part_init : Nat := 159
abbrev m_Pool_init : Nat := 160
abbrev m_Pool_clear : Nat := 161
abbrev m_Pool_collect : Nat := 162
abbrev m_Pool_admit : Nat := 163
abbrev m_Pool_isEnd : Nat := 164
abbrev m_Pool_addressIn : Nat := 165
abbrev m_Row_init : Nat := 166
abbrev m_Row_at : Nat := 167
abbrev m_Row_clear : Nat := 168
abbrev m_Row_putAll : Nat := 169
abbrev m_Row_put : Nat := 170
abbrev m_Row_fillTo : Nat := 171
abbrev m_Row_cover : Nat := 172
abbrev m_Row_set : Nat := 173
abbrev m_Row_copy : Nat := 174
abbrev m_Row_putDecimal : Nat := 175
abbrev m_Row_putHighestFirst : Nat := 176
abbrev m_Row_num : Nat := 177
abbrev m_Row_nameLength : Nat := 178
abbrev m_Row_begins : Nat := 179
abbrev m_Row_holds : Nat := 180
abbrev m_Row_putHex : Nat := 181
abbrev m_Scribe_init : Nat := 182
abbrev m_Scribe_writeMerged : Nat := 183
abbrev m_Scribe_numberParts : Nat := 184
abbrev m_Scribe_numberSymbols : Nat := 185
abbrev m_Scribe_listName : Nat := 186
abbrev m_Scribe_mergeParts : Nat := 187
abbrev m_Scribe_nextPlace : Nat := 188
abbrev m_Scribe_putRow : Nat := 189
abbrev m_Scribe_endRow : Nat := 190
abbrev m_Scribe_mergeSites : Nat := 191
abbrev m_Scribe_freshSymbol : Nat := 192
abbrev m_Scribe_mergeSymbols : Nat := 193
abbrev m_Scribe_mergeLocal : Nat := 194
abbrev m_Scribe_putSymbol : Nat := 195
abbrev m_Scribe_mergeName : Nat := 196
abbrev m_Scribe_mergeNames : Nat := 197
abbrev m_Scribe_writePacked : Nat := 198
abbrev m_Scribe_isObject : Nat := 199
abbrev m_Scribe_writeIndex : Nat := 200
abbrev m_Scribe_writeAhead : Nat := 201
abbrev m_Scribe_writeObjects : Nat := 202
abbrev m_Scribe_writeNamed : Nat := 203
abbrev m_Scribe_rowOf : Nat := 204
abbrev m_Scribe_writeSegmentRows : Nat := 205
abbrev m_Scribe_writeList : Nat := 206
abbrev m_Scribe_letterOf : Nat := 207
abbrev m_Scribe_writeMap : Nat := 208
abbrev m_M_init : Nat := 209
abbrev m_M_thrown : Nat := 210
abbrev m_M_feed : Nat := 211
abbrev m_M_throwing : Nat := 212
abbrev m_M_add : Nat := 213
abbrev m_M_fileError : Nat := 214
abbrev m_M_num : Nat := 215
abbrev m_M_objectError : Nat := 216
abbrev m_M_isHeader : Nat := 217
abbrev m_M_sections : Nat := 218
abbrev m_M_lies : Nat := 219
abbrev m_M_type : Nat := 220
abbrev m_M_row : Nat := 221
abbrev m_M_sectionError : Nat := 222
abbrev m_M_beginning : Nat := 223
abbrev m_M_size : Nat := 224
abbrev m_M_isKept : Nat := 225
abbrev m_M_flagsOf : Nat := 226
abbrev m_M_align : Nat := 227
abbrev m_M_isPower : Nat := 228
abbrev m_M_symbolsError : Nat := 229
abbrev m_M_symbols : Nat := 230
abbrev m_M_linkOf : Nat := 231
abbrev m_M_symbolMany : Nat := 232
abbrev m_M_isSymbol : Nat := 233
abbrev m_M_where : Nat := 234
abbrev m_M_symbol : Nat := 235
abbrev m_M_bind : Nat := 236
abbrev m_M_isName : Nat := 237
abbrev m_M_value : Nat := 238
abbrev m_M_symbolSize : Nat := 239
abbrev m_M_sitesError : Nat := 240
abbrev m_M_isSites : Nat := 241
abbrev m_M_info : Nat := 242
abbrev m_M_siteMany : Nat := 243
abbrev m_M_isSite : Nat := 244
abbrev m_M_site : Nat := 245
abbrev m_M_width : Nat := 246
abbrev m_M_isSlotted : Nat := 247
abbrev m_M_groupsError : Nat := 248
abbrev m_M_isGroup : Nat := 249
abbrev m_M_isGroupRight : Nat := 250
abbrev m_M_groupNumber : Nat := 251
abbrev m_M_isMembers : Nat := 252
abbrev m_M_drop : Nat := 253
abbrev m_M_give : Nat := 254
abbrev m_M_isTapeName : Nat := 255
abbrev m_M_toldAt : Nat := 256
abbrev m_M_wish : Nat := 257
abbrev m_M_forget : Nat := 258
abbrev m_M_link : Nat := 259
abbrev m_M_tellNames : Nat := 260
abbrev m_M_entered : Nat := 261
abbrev m_M_find : Nat := 262
abbrev m_M_takeAll : Nat := 263
abbrev m_M_takeFrom : Nat := 264
abbrev m_M_helps : Nat := 265
abbrev m_M_nameOf : Nat := 266
abbrev m_M_nameAt : Nat := 267
abbrev m_M_nameEnd : Nat := 268
abbrev m_M_take : Nat := 269
abbrev m_M_dropGroups : Nat := 270
abbrev m_M_object : Nat := 271
abbrev m_M_isAgain : Nat := 272
abbrev m_M_enter : Nat := 273
abbrev m_M_come : Nat := 274
abbrev m_M_strengthOf : Nat := 275
abbrev m_M_whereNow : Nat := 276
abbrev m_M_say : Nat := 277
abbrev m_M_ownNames : Nat := 278
abbrev m_M_look2 : Nat := 279
abbrev m_M_start : Nat := 280
abbrev m_M_reach : Nat := 281
abbrev m_M_reachName : Nat := 282
abbrev m_M_isGiven : Nat := 283
abbrev m_M_reachSection : Nat := 284
abbrev m_M_reachSites : Nat := 285
abbrev m_M_lay : Nat := 286
abbrev m_M_stays : Nat := 287
abbrev m_M_group : Nat := 288
abbrev m_M_findPool : Nat := 289
abbrev m_M_isStrings : Nat := 290
abbrev m_M_nodeOf : Nat := 291
abbrev m_M_childOf : Nat := 292
abbrev m_M_toPool : Nat := 293
abbrev m_M_findSlots : Nat := 294
abbrev m_M_isShort : Nat := 295
abbrev m_M_shortKind : Nat := 296
abbrev m_M_isInside : Nat := 297
abbrev m_M_isSectionNow : Nat := 298
abbrev m_M_slotOf : Nat := 299
abbrev m_M_layout : Nat := 300
abbrev m_M_findSegments : Nat := 301
abbrev m_M_segmentOf : Nat := 302
abbrev m_M_isCommon : Nat := 303
abbrev m_M_isThreaded : Nat := 304
abbrev m_M_placeSegment : Nat := 305
abbrev m_M_up : Nat := 306
abbrev m_M_placeGroup : Nat := 307
abbrev m_M_placeStrings : Nat := 308
abbrev m_M_byteAddress : Nat := 309
abbrev m_M_placeCommons : Nat := 310
abbrev m_M_findTemplate : Nat := 311
abbrev m_M_ownAddress : Nat := 312
abbrev m_M_own : Nat := 313
abbrev m_M_sites : Nat := 314
abbrev m_M_one : Nat := 315
abbrev m_M_siteValue : Nat := 316
abbrev m_M_symbolAddress : Nat := 317
abbrev m_M_siteAddress : Nat := 318
abbrev m_M_isOfStrings : Nat := 319
abbrev m_M_fillSite : Nat := 320
abbrev m_M_put : Nat := 321
abbrev m_M_runsOver : Nat := 322
abbrev m_M_write : Nat := 323
abbrev m_M_keepLink : Nat := 324
abbrev m_M_named : Nat := 325
abbrev m_M_wider : Nat := 326
abbrev m_M_numberOf : Nat := 327
abbrev m_M_namedSegment : Nat := 328
abbrev m_M_cause : Nat := 329
abbrev m_M_sum : Nat := 330
abbrev m_M_merge : Nat := 331
abbrev m_M_merges : Nat := 332
abbrev m_M_countParts : Nat := 333
abbrev m_M_part : Nat := 334
abbrev m_M_countSymbols : Nat := 335
abbrev m_M_numberName : Nat := 336
abbrev m_M_mergedRow : Nat := 337
abbrev m_M_placeOf : Nat := 338
abbrev m_M_partSize : Nat := 339
abbrev m_M_isPart : Nat := 340
abbrev m_M_textMany : Nat := 341
abbrev m_M_mergedSites : Nat := 342
abbrev m_M_mergedRows : Nat := 343
abbrev m_M_mergedSection : Nat := 344
abbrev m_M_mergedLocals : Nat := 345
abbrev m_M_mergedSymbol : Nat := 346
abbrev m_M_mergedNames : Nat := 347
abbrev m_M_mergedDefinition : Nat := 348
abbrev m_M_pack : Nat := 349
abbrev m_M_findObjects : Nat := 350
abbrev m_M_isDefining : Nat := 351
abbrev m_M_ahead : Nat := 352
abbrev m_M_digits : Nat := 353
abbrev m_M_highFirst : Nat := 354
abbrev m_M_list : Nat := 355
abbrev m_M_sixteen : Nat := 356
abbrev m_M_letterOf : Nat := 357
abbrev m_M_map : Nat := 358
abbrev m_M_wide : Nat := 359
abbrev m_M_sayNumber : Nat := 360
abbrev m_M_boot : Nat := 361
abbrev m_M_triedError : Nat := 362
abbrev m_M_isExecutable : Nat := 363
abbrev m_M_triedNum : Nat := 364
abbrev m_M_rowError : Nat := 365
abbrev m_M_findMemoryNames : Nat := 366
abbrev m_M_memorySymbol : Nat := 367
abbrev m_M_near : Nat := 368
abbrev m_M_rowOf : Nat := 369
abbrev m_M_peek : Nat := 370
abbrev m_M_flags : Nat := 371
abbrev m_M_address : Nat := 372
abbrev m_M_taken : Nat := 373
abbrev m_M_section : Nat := 374
abbrev m_M_place : Nat := 375
abbrev m_M_out : Nat := 376
abbrev m_M_look : Nat := 377
abbrev m_Arrays_fill : Nat := 378
abbrev m_Arrays_rangeCheck : Nat := 379
abbrev m_Arrays_fill_2 : Nat := 380
abbrev m_Arrays_fill_3 : Nat := 381
abbrev m_L_feed : Nat := 382
abbrev m_L_add : Nat := 383
abbrev m_L_drop : Nat := 384
abbrev m_L_give : Nat := 385
abbrev m_L_wish : Nat := 386
abbrev m_L_named : Nat := 387
abbrev m_L_list : Nat := 388
abbrev m_L_sum : Nat := 389
abbrev m_L_map : Nat := 390
abbrev m_L_address : Nat := 391
abbrev m_L_taken : Nat := 392
abbrev m_L_cause : Nat := 393
abbrev m_L_section : Nat := 394
abbrev m_L_place : Nat := 395
abbrev m_L_out : Nat := 396
abbrev m_L_look : Nat := 397
abbrev m_L_law : Nat := 398
set_option maxRecDepth 1000000 in
theorem pg_w0 : pg_tb 35 = some (.code (pg_mn 0) (pg_by 0) (pg_ml 0) (pg_rt 0)) := by rfl
set_option maxRecDepth 1000000 in
theorem pg_w1 : pg_tb 799 = some (.code (pg_mn 1) (pg_by 1) (pg_ml 1) (pg_rt 1)) := by rfl
set_option maxRecDepth 1000000 in
theorem pg_w2 : pg_tb 803 = some (.code (pg_mn 2) (pg_by 2) (pg_ml 2) (pg_rt 2)) := by rfl
set_option maxRecDepth 1000000 in
theorem pg_w3 : pg_tb 1388 = some (.code (pg_mn 3) (pg_by 3) (pg_ml 3) (pg_rt 3)) := by rfl
set_option maxRecDepth 1000000 in
theorem pg_w4 : pg_tb 1518 = some (.code (pg_mn 4) (pg_by 4) (pg_ml 4) (pg_rt 4)) := by rfl
set_option maxRecDepth 1000000 in
theorem pg_w5 : pg_tb 1571 = some (.code (pg_mn 5) (pg_by 5) (pg_ml 5) (pg_rt 5)) := by rfl
set_option maxRecDepth 1000000 in
theorem pg_w6 : pg_tb 1672 = some (.code (pg_mn 6) (pg_by 6) (pg_ml 6) (pg_rt 6)) := by rfl
set_option maxRecDepth 1000000 in
theorem pg_w7 : pg_tb 1676 = some (.code (pg_mn 7) (pg_by 7) (pg_ml 7) (pg_rt 7)) := by rfl
set_option maxRecDepth 1000000 in
theorem pg_w8 : pg_tb 1680 = some (.code (pg_mn 8) (pg_by 8) (pg_ml 8) (pg_rt 8)) := by rfl
set_option maxRecDepth 1000000 in
theorem pg_w9 : pg_tb 1721 = some (.code (pg_mn 9) (pg_by 9) (pg_ml 9) (pg_rt 9)) := by rfl
set_option maxRecDepth 1000000 in
theorem pg_w10 : pg_tb 1728 = some (.code (pg_mn 10) (pg_by 10) (pg_ml 10) (pg_rt 10)) := by rfl
set_option maxRecDepth 1000000 in
theorem pg_w11 : pg_tb 1762 = some (.code (pg_mn 11) (pg_by 11) (pg_ml 11) (pg_rt 11)) := by rfl
set_option maxRecDepth 1000000 in
theorem pg_w12 : pg_tb 1802 = some (.code (pg_mn 12) (pg_by 12) (pg_ml 12) (pg_rt 12)) := by rfl
set_option maxRecDepth 1000000 in
theorem pg_w13 : pg_tb 1811 = some (.code (pg_mn 13) (pg_by 13) (pg_ml 13) (pg_rt 13)) := by rfl
set_option maxRecDepth 1000000 in
theorem pg_w14 : pg_tb 1825 = some (.code (pg_mn 14) (pg_by 14) (pg_ml 14) (pg_rt 14)) := by rfl
set_option maxRecDepth 1000000 in
theorem pg_w15 : pg_tb 1852 = some (.code (pg_mn 15) (pg_by 15) (pg_ml 15) (pg_rt 15)) := by rfl
set_option maxRecDepth 1000000 in
theorem pg_w16 : pg_tb 1857 = some (.code (pg_mn 16) (pg_by 16) (pg_ml 16) (pg_rt 16)) := by rfl
set_option maxRecDepth 1000000 in
theorem pg_w17 : pg_tb 1863 = some (.code (pg_mn 17) (pg_by 17) (pg_ml 17) (pg_rt 17)) := by rfl
set_option maxRecDepth 1000000 in
theorem pg_w18 : pg_tb 1867 = some (.code (pg_mn 18) (pg_by 18) (pg_ml 18) (pg_rt 18)) := by rfl
set_option maxRecDepth 1000000 in
theorem pg_w19 : pg_tb 1912 = some (.code (pg_mn 19) (pg_by 19) (pg_ml 19) (pg_rt 19)) := by rfl
set_option maxRecDepth 1000000 in
theorem pg_w20 : pg_tb 1968 = some (.code (pg_mn 20) (pg_by 20) (pg_ml 20) (pg_rt 20)) := by rfl
set_option maxRecDepth 1000000 in
theorem pg_w21 : pg_tb 1975 = some (.code (pg_mn 21) (pg_by 21) (pg_ml 21) (pg_rt 21)) := by rfl
set_option maxRecDepth 1000000 in
theorem pg_w22 : pg_tb 1983 = some (.code (pg_mn 22) (pg_by 22) (pg_ml 22) (pg_rt 22)) := by rfl
set_option maxRecDepth 1000000 in
theorem pg_w23 : pg_tb 1987 = some (.code (pg_mn 23) (pg_by 23) (pg_ml 23) (pg_rt 23)) := by rfl
set_option maxRecDepth 1000000 in
theorem pg_w24 : pg_tb 2000 = some (.code (pg_mn 24) (pg_by 24) (pg_ml 24) (pg_rt 24)) := by rfl
set_option maxRecDepth 1000000 in
theorem pg_w25 : pg_tb 2008 = some (.code (pg_mn 25) (pg_by 25) (pg_ml 25) (pg_rt 25)) := by rfl
set_option maxRecDepth 1000000 in
theorem pg_w26 : pg_tb 2035 = some (.code (pg_mn 26) (pg_by 26) (pg_ml 26) (pg_rt 26)) := by rfl
set_option maxRecDepth 1000000 in
theorem pg_w27 : pg_tb 2039 = some (.code (pg_mn 27) (pg_by 27) (pg_ml 27) (pg_rt 27)) := by rfl
set_option maxRecDepth 1000000 in
theorem pg_w28 : pg_tb 2043 = some (.code (pg_mn 28) (pg_by 28) (pg_ml 28) (pg_rt 28)) := by rfl
set_option maxRecDepth 1000000 in
theorem pg_w29 : pg_tb 2083 = some (.code (pg_mn 29) (pg_by 29) (pg_ml 29) (pg_rt 29)) := by rfl
set_option maxRecDepth 1000000 in
theorem pg_w30 : pg_tb 2093 = some (.code (pg_mn 30) (pg_by 30) (pg_ml 30) (pg_rt 30)) := by rfl
set_option maxRecDepth 1000000 in
theorem pg_w31 : pg_tb 2106 = some (.code (pg_mn 31) (pg_by 31) (pg_ml 31) (pg_rt 31)) := by rfl
set_option maxRecDepth 1000000 in
theorem pg_w32 : pg_tb 2113 = some (.code (pg_mn 32) (pg_by 32) (pg_ml 32) (pg_rt 32)) := by rfl
set_option maxRecDepth 1000000 in
theorem pg_w33 : pg_tb 2121 = some (.code (pg_mn 33) (pg_by 33) (pg_ml 33) (pg_rt 33)) := by rfl
set_option maxRecDepth 1000000 in
theorem pg_w34 : pg_tb 2129 = some (.code (pg_mn 34) (pg_by 34) (pg_ml 34) (pg_rt 34)) := by rfl
set_option maxRecDepth 1000000 in
theorem pg_w35 : pg_tb 2138 = some (.code (pg_mn 35) (pg_by 35) (pg_ml 35) (pg_rt 35)) := by rfl
set_option maxRecDepth 1000000 in
theorem pg_w36 : pg_tb 2146 = some (.code (pg_mn 36) (pg_by 36) (pg_ml 36) (pg_rt 36)) := by rfl
set_option maxRecDepth 1000000 in
theorem pg_w37 : pg_tb 2154 = some (.code (pg_mn 37) (pg_by 37) (pg_ml 37) (pg_rt 37)) := by rfl
set_option maxRecDepth 1000000 in
theorem pg_w38 : pg_tb 2159 = some (.code (pg_mn 38) (pg_by 38) (pg_ml 38) (pg_rt 38)) := by rfl
set_option maxRecDepth 1000000 in
theorem pg_w39 : pg_tb 629 = some (.code (pg_mn 39) (pg_by 39) (pg_ml 39) (pg_rt 39)) := by rfl
set_option maxRecDepth 1000000 in
theorem pg_w40 : pg_tb 1431 = some (.code (pg_mn 40) (pg_by 40) (pg_ml 40) (pg_rt 40)) := by rfl
set_option maxRecDepth 1000000 in
theorem pg_w41 : pg_tb 1435 = some (.code (pg_mn 41) (pg_by 41) (pg_ml 41) (pg_rt 41)) := by rfl
set_option maxRecDepth 1000000 in
theorem pg_w42 : pg_tb 1474 = some (.code (pg_mn 42) (pg_by 42) (pg_ml 42) (pg_rt 42)) := by rfl
set_option maxRecDepth 1000000 in
theorem pg_w43 : pg_tb 1479 = some (.code (pg_mn 43) (pg_by 43) (pg_ml 43) (pg_rt 43)) := by rfl
set_option maxRecDepth 1000000 in
theorem pg_w44 : pg_tb 1506 = some (.code (pg_mn 44) (pg_by 44) (pg_ml 44) (pg_rt 44)) := by rfl
set_option maxRecDepth 1000000 in
theorem pg_w45 : pg_tb 1514 = some (.code (pg_mn 45) (pg_by 45) (pg_ml 45) (pg_rt 45)) := by rfl
set_option maxRecDepth 1000000 in
theorem pg_w46 : pg_tb 1532 = some (.code (pg_mn 46) (pg_by 46) (pg_ml 46) (pg_rt 46)) := by rfl
set_option maxRecDepth 1000000 in
theorem pg_w47 : pg_tb 1543 = some (.code (pg_mn 47) (pg_by 47) (pg_ml 47) (pg_rt 47)) := by rfl
set_option maxRecDepth 1000000 in
theorem pg_w48 : pg_tb 1549 = some (.code (pg_mn 48) (pg_by 48) (pg_ml 48) (pg_rt 48)) := by rfl
set_option maxRecDepth 1000000 in
theorem pg_w49 : pg_tb 542 = some (.code (pg_mn 49) (pg_by 49) (pg_ml 49) (pg_rt 49)) := by rfl
set_option maxRecDepth 1000000 in
theorem pg_w50 : pg_tb 1011 = some (.code (pg_mn 50) (pg_by 50) (pg_ml 50) (pg_rt 50)) := by rfl
set_option maxRecDepth 1000000 in
theorem pg_w51 : pg_tb 1015 = some (.code (pg_mn 51) (pg_by 51) (pg_ml 51) (pg_rt 51)) := by rfl
set_option maxRecDepth 1000000 in
theorem pg_w52 : pg_tb 1039 = some (.code (pg_mn 52) (pg_by 52) (pg_ml 52) (pg_rt 52)) := by rfl
set_option maxRecDepth 1000000 in
theorem pg_w53 : pg_tb 1338 = some (.code (pg_mn 53) (pg_by 53) (pg_ml 53) (pg_rt 53)) := by rfl
set_option maxRecDepth 1000000 in
theorem pg_w54 : pg_tb 1349 = some (.code (pg_mn 54) (pg_by 54) (pg_ml 54) (pg_rt 54)) := by rfl
set_option maxRecDepth 1000000 in
theorem pg_w55 : pg_tb 1354 = some (.code (pg_mn 55) (pg_by 55) (pg_ml 55) (pg_rt 55)) := by rfl
set_option maxRecDepth 1000000 in
theorem pg_w56 : pg_tb 1358 = some (.code (pg_mn 56) (pg_by 56) (pg_ml 56) (pg_rt 56)) := by rfl
set_option maxRecDepth 1000000 in
theorem pg_w57 : pg_tb 1365 = some (.code (pg_mn 57) (pg_by 57) (pg_ml 57) (pg_rt 57)) := by rfl
set_option maxRecDepth 1000000 in
theorem pg_w58 : pg_tb 1369 = some (.code (pg_mn 58) (pg_by 58) (pg_ml 58) (pg_rt 58)) := by rfl
set_option maxRecDepth 1000000 in
theorem pg_w59 : pg_tb 1375 = some (.code (pg_mn 59) (pg_by 59) (pg_ml 59) (pg_rt 59)) := by rfl
set_option maxRecDepth 1000000 in
theorem pg_w60 : pg_tb 1379 = some (.code (pg_mn 60) (pg_by 60) (pg_ml 60) (pg_rt 60)) := by rfl
set_option maxRecDepth 1000000 in
theorem pg_w61 : pg_tb 1383 = some (.code (pg_mn 61) (pg_by 61) (pg_ml 61) (pg_rt 61)) := by rfl
set_option maxRecDepth 1000000 in
theorem pg_w62 : pg_tb 1394 = some (.code (pg_mn 62) (pg_by 62) (pg_ml 62) (pg_rt 62)) := by rfl
set_option maxRecDepth 1000000 in
theorem pg_w63 : pg_tb 1398 = some (.code (pg_mn 63) (pg_by 63) (pg_ml 63) (pg_rt 63)) := by rfl
set_option maxRecDepth 1000000 in
theorem pg_w64 : pg_tb 1402 = some (.code (pg_mn 64) (pg_by 64) (pg_ml 64) (pg_rt 64)) := by rfl
set_option maxRecDepth 1000000 in
theorem pg_w65 : pg_tb 1406 = some (.code (pg_mn 65) (pg_by 65) (pg_ml 65) (pg_rt 65)) := by rfl
set_option maxRecDepth 1000000 in
theorem pg_w66 : pg_tb 1418 = some (.code (pg_mn 66) (pg_by 66) (pg_ml 66) (pg_rt 66)) := by rfl
set_option maxRecDepth 1000000 in
theorem pg_w67 : pg_tb 1422 = some (.code (pg_mn 67) (pg_by 67) (pg_ml 67) (pg_rt 67)) := by rfl
set_option maxRecDepth 1000000 in
theorem pg_w68 : pg_tb 1426 = some (.code (pg_mn 68) (pg_by 68) (pg_ml 68) (pg_rt 68)) := by rfl
set_option maxRecDepth 1000000 in
theorem pg_w69 : pg_tb 1489 = some (.code (pg_mn 69) (pg_by 69) (pg_ml 69) (pg_rt 69)) := by rfl
set_option maxRecDepth 1000000 in
theorem pg_w70 : pg_tb 1493 = some (.code (pg_mn 70) (pg_by 70) (pg_ml 70) (pg_rt 70)) := by rfl
set_option maxRecDepth 1000000 in
theorem pg_w71 : pg_tb 277 = some (.code (pg_mn 71) (pg_by 71) (pg_ml 71) (pg_rt 71)) := by rfl
set_option maxRecDepth 1000000 in
theorem pg_w72 : pg_tb 807 = some (.code (pg_mn 72) (pg_by 72) (pg_ml 72) (pg_rt 72)) := by rfl
set_option maxRecDepth 1000000 in
theorem pg_w73 : pg_tb 811 = some (.code (pg_mn 73) (pg_by 73) (pg_ml 73) (pg_rt 73)) := by rfl
set_option maxRecDepth 1000000 in
theorem pg_w74 : pg_tb 831 = some (.code (pg_mn 74) (pg_by 74) (pg_ml 74) (pg_rt 74)) := by rfl
set_option maxRecDepth 1000000 in
theorem pg_w75 : pg_tb 835 = some (.code (pg_mn 75) (pg_by 75) (pg_ml 75) (pg_rt 75)) := by rfl
set_option maxRecDepth 1000000 in
theorem pg_w76 : pg_tb 839 = some (.code (pg_mn 76) (pg_by 76) (pg_ml 76) (pg_rt 76)) := by rfl
set_option maxRecDepth 1000000 in
theorem pg_w77 : pg_tb 843 = some (.code (pg_mn 77) (pg_by 77) (pg_ml 77) (pg_rt 77)) := by rfl
set_option maxRecDepth 1000000 in
theorem pg_w78 : pg_tb 874 = some (.code (pg_mn 78) (pg_by 78) (pg_ml 78) (pg_rt 78)) := by rfl
set_option maxRecDepth 1000000 in
theorem pg_w79 : pg_tb 894 = some (.code (pg_mn 79) (pg_by 79) (pg_ml 79) (pg_rt 79)) := by rfl
set_option maxRecDepth 1000000 in
theorem pg_w80 : pg_tb 908 = some (.code (pg_mn 80) (pg_by 80) (pg_ml 80) (pg_rt 80)) := by rfl
set_option maxRecDepth 1000000 in
theorem pg_w81 : pg_tb 912 = some (.code (pg_mn 81) (pg_by 81) (pg_ml 81) (pg_rt 81)) := by rfl
set_option maxRecDepth 1000000 in
theorem pg_w82 : pg_tb 916 = some (.code (pg_mn 82) (pg_by 82) (pg_ml 82) (pg_rt 82)) := by rfl
set_option maxRecDepth 1000000 in
theorem pg_w83 : pg_tb 924 = some (.code (pg_mn 83) (pg_by 83) (pg_ml 83) (pg_rt 83)) := by rfl
set_option maxRecDepth 1000000 in
theorem pg_w84 : pg_tb 930 = some (.code (pg_mn 84) (pg_by 84) (pg_ml 84) (pg_rt 84)) := by rfl
set_option maxRecDepth 1000000 in
theorem pg_w85 : pg_tb 934 = some (.code (pg_mn 85) (pg_by 85) (pg_ml 85) (pg_rt 85)) := by rfl
set_option maxRecDepth 1000000 in
theorem pg_w86 : pg_tb 944 = some (.code (pg_mn 86) (pg_by 86) (pg_ml 86) (pg_rt 86)) := by rfl
set_option maxRecDepth 1000000 in
theorem pg_w87 : pg_tb 953 = some (.code (pg_mn 87) (pg_by 87) (pg_ml 87) (pg_rt 87)) := by rfl
set_option maxRecDepth 1000000 in
theorem pg_w88 : pg_tb 960 = some (.code (pg_mn 88) (pg_by 88) (pg_ml 88) (pg_rt 88)) := by rfl
set_option maxRecDepth 1000000 in
theorem pg_w89 : pg_tb 964 = some (.code (pg_mn 89) (pg_by 89) (pg_ml 89) (pg_rt 89)) := by rfl
set_option maxRecDepth 1000000 in
theorem pg_w90 : pg_tb 968 = some (.code (pg_mn 90) (pg_by 90) (pg_ml 90) (pg_rt 90)) := by rfl
set_option maxRecDepth 1000000 in
theorem pg_w91 : pg_tb 972 = some (.code (pg_mn 91) (pg_by 91) (pg_ml 91) (pg_rt 91)) := by rfl
set_option maxRecDepth 1000000 in
theorem pg_w92 : pg_tb 976 = some (.code (pg_mn 92) (pg_by 92) (pg_ml 92) (pg_rt 92)) := by rfl
set_option maxRecDepth 1000000 in
theorem pg_w93 : pg_tb 980 = some (.code (pg_mn 93) (pg_by 93) (pg_ml 93) (pg_rt 93)) := by rfl
set_option maxRecDepth 1000000 in
theorem pg_w94 : pg_tb 984 = some (.code (pg_mn 94) (pg_by 94) (pg_ml 94) (pg_rt 94)) := by rfl
set_option maxRecDepth 1000000 in
theorem pg_w95 : pg_tb 1002 = some (.code (pg_mn 95) (pg_by 95) (pg_ml 95) (pg_rt 95)) := by rfl
set_option maxRecDepth 1000000 in
theorem pg_w96 : pg_tb 1006 = some (.code (pg_mn 96) (pg_by 96) (pg_ml 96) (pg_rt 96)) := by rfl
set_option maxRecDepth 1000000 in
theorem pg_w97 : pg_tb 1332 = some (.code (pg_mn 97) (pg_by 97) (pg_ml 97) (pg_rt 97)) := by rfl
set_option maxRecDepth 1000000 in
theorem pg_w98 : pg_tb 1343 = some (.code (pg_mn 98) (pg_by 98) (pg_ml 98) (pg_rt 98)) := by rfl
set_option maxRecDepth 1000000 in
theorem pg_w99 : pg_tb 2163 = some (.code (pg_mn 99) (pg_by 99) (pg_ml 99) (pg_rt 99)) := by rfl
set_option maxRecDepth 1000000 in
theorem pg_w100 : pg_tb 692 = some (.code (pg_mn 100) (pg_by 100) (pg_ml 100) (pg_rt 100)) := by rfl
set_option maxRecDepth 1000000 in
theorem pg_w101 : pg_tb 1725 = some (.code (pg_mn 101) (pg_by 101) (pg_ml 101) (pg_rt 101)) := by rfl
set_option maxRecDepth 1000000 in
theorem pg_w102 : pg_tb 1733 = some (.code (pg_mn 102) (pg_by 102) (pg_ml 102) (pg_rt 102)) := by rfl
set_option maxRecDepth 1000000 in
theorem pg_w103 : pg_tb 1737 = some (.code (pg_mn 103) (pg_by 103) (pg_ml 103) (pg_rt 103)) := by rfl
set_option maxRecDepth 1000000 in
theorem pg_w104 : pg_tb 1746 = some (.code (pg_mn 104) (pg_by 104) (pg_ml 104) (pg_rt 104)) := by rfl
set_option maxRecDepth 1000000 in
theorem pg_w105 : pg_tb 1756 = some (.code (pg_mn 105) (pg_by 105) (pg_ml 105) (pg_rt 105)) := by rfl
set_option maxRecDepth 1000000 in
theorem pg_w106 : pg_tb 1766 = some (.code (pg_mn 106) (pg_by 106) (pg_ml 106) (pg_rt 106)) := by rfl
set_option maxRecDepth 1000000 in
theorem pg_w107 : pg_tb 1782 = some (.code (pg_mn 107) (pg_by 107) (pg_ml 107) (pg_rt 107)) := by rfl
set_option maxRecDepth 1000000 in
theorem pg_w108 : pg_tb 1788 = some (.code (pg_mn 108) (pg_by 108) (pg_ml 108) (pg_rt 108)) := by rfl
set_option maxRecDepth 1000000 in
theorem pg_w109 : pg_tb 1794 = some (.code (pg_mn 109) (pg_by 109) (pg_ml 109) (pg_rt 109)) := by rfl
set_option maxRecDepth 1000000 in
theorem pg_w110 : pg_tb 1806 = some (.code (pg_mn 110) (pg_by 110) (pg_ml 110) (pg_rt 110)) := by rfl
set_option maxRecDepth 1000000 in
theorem pg_w111 : pg_tb 1815 = some (.code (pg_mn 111) (pg_by 111) (pg_ml 111) (pg_rt 111)) := by rfl
set_option maxRecDepth 1000000 in
theorem pg_w112 : pg_tb 164 = some (.code (pg_mn 112) (pg_by 112) (pg_ml 112) (pg_rt 112)) := by rfl
set_option maxRecDepth 1000000 in
theorem pg_w113 : pg_tb 369 = some (.code (pg_mn 113) (pg_by 113) (pg_ml 113) (pg_rt 113)) := by rfl
set_option maxRecDepth 1000000 in
theorem pg_w114 : pg_tb 373 = some (.code (pg_mn 114) (pg_by 114) (pg_ml 114) (pg_rt 114)) := by rfl
set_option maxRecDepth 1000000 in
theorem pg_w115 : pg_tb 425 = some (.code (pg_mn 115) (pg_by 115) (pg_ml 115) (pg_rt 115)) := by rfl
set_option maxRecDepth 1000000 in
theorem pg_w116 : pg_tb 827 = some (.code (pg_mn 116) (pg_by 116) (pg_ml 116) (pg_rt 116)) := by rfl
set_option maxRecDepth 1000000 in
theorem pg_w117 : pg_tb 886 = some (.code (pg_mn 117) (pg_by 117) (pg_ml 117) (pg_rt 117)) := by rfl
set_option maxRecDepth 1000000 in
theorem pg_w118 : pg_tb 948 = some (.code (pg_mn 118) (pg_by 118) (pg_ml 118) (pg_rt 118)) := by rfl
set_option maxRecDepth 1000000 in
theorem pg_w119 : pg_tb 1566 = some (.code (pg_mn 119) (pg_by 119) (pg_ml 119) (pg_rt 119)) := by rfl
set_option maxRecDepth 1000000 in
theorem pg_w120 : pg_tb 1657 = some (.code (pg_mn 120) (pg_by 120) (pg_ml 120) (pg_rt 120)) := by rfl
set_option maxRecDepth 1000000 in
theorem pg_w121 : pg_tb 156 = some (.code (pg_mn 121) (pg_by 121) (pg_ml 121) (pg_rt 121)) := by rfl
set_option maxRecDepth 1000000 in
theorem pg_w122 : pg_tb 815 = some (.code (pg_mn 122) (pg_by 122) (pg_ml 122) (pg_rt 122)) := by rfl
set_option maxRecDepth 1000000 in
theorem pg_w123 : pg_tb 819 = some (.code (pg_mn 123) (pg_by 123) (pg_ml 123) (pg_rt 123)) := by rfl
set_option maxRecDepth 1000000 in
theorem pg_w124 : pg_tb 823 = some (.code (pg_mn 124) (pg_by 124) (pg_ml 124) (pg_rt 124)) := by rfl
set_option maxRecDepth 1000000 in
theorem pg_w125 : pg_tb 75 = some (.code (pg_mn 125) (pg_by 125) (pg_ml 125) (pg_rt 125)) := by rfl
set_option maxRecDepth 1000000 in
theorem pg_w126 : pg_tb 847 = some (.code (pg_mn 126) (pg_by 126) (pg_ml 126) (pg_rt 126)) := by rfl
set_option maxRecDepth 1000000 in
theorem pg_w127 : pg_tb 851 = some (.code (pg_mn 127) (pg_by 127) (pg_ml 127) (pg_rt 127)) := by rfl
set_option maxRecDepth 1000000 in
theorem pg_w128 : pg_tb 855 = some (.code (pg_mn 128) (pg_by 128) (pg_ml 128) (pg_rt 128)) := by rfl
set_option maxRecDepth 1000000 in
theorem pg_w129 : pg_tb 859 = some (.code (pg_mn 129) (pg_by 129) (pg_ml 129) (pg_rt 129)) := by rfl
set_option maxRecDepth 1000000 in
theorem pg_w130 : pg_tb 866 = some (.code (pg_mn 130) (pg_by 130) (pg_ml 130) (pg_rt 130)) := by rfl
set_option maxRecDepth 1000000 in
theorem pg_w131 : pg_tb 870 = some (.code (pg_mn 131) (pg_by 131) (pg_ml 131) (pg_rt 131)) := by rfl
set_option maxRecDepth 1000000 in
theorem pg_w132 : pg_tb 878 = some (.code (pg_mn 132) (pg_by 132) (pg_ml 132) (pg_rt 132)) := by rfl
set_option maxRecDepth 1000000 in
theorem pg_w133 : pg_tb 882 = some (.code (pg_mn 133) (pg_by 133) (pg_ml 133) (pg_rt 133)) := by rfl
set_option maxRecDepth 1000000 in
theorem pg_w134 : pg_tb 898 = some (.code (pg_mn 134) (pg_by 134) (pg_ml 134) (pg_rt 134)) := by rfl
set_option maxRecDepth 1000000 in
theorem pg_w135 : pg_tb 904 = some (.code (pg_mn 135) (pg_by 135) (pg_ml 135) (pg_rt 135)) := by rfl
set_option maxRecDepth 1000000 in
theorem pg_w136 : pg_tb 920 = some (.code (pg_mn 136) (pg_by 136) (pg_ml 136) (pg_rt 136)) := by rfl
set_option maxRecDepth 1000000 in
theorem pg_w137 : pg_tb 938 = some (.code (pg_mn 137) (pg_by 137) (pg_ml 137) (pg_rt 137)) := by rfl
set_option maxRecDepth 1000000 in
theorem pg_w138 : pg_tb 988 = some (.code (pg_mn 138) (pg_by 138) (pg_ml 138) (pg_rt 138)) := by rfl
set_option maxRecDepth 1000000 in
theorem pg_w139 : pg_tb 996 = some (.code (pg_mn 139) (pg_by 139) (pg_ml 139) (pg_rt 139)) := by rfl
set_option maxRecDepth 1000000 in
theorem pg_w140 : pg_tb 1498 = some (.code (pg_mn 140) (pg_by 140) (pg_ml 140) (pg_rt 140)) := by rfl
set_option maxRecDepth 1000000 in
theorem pg_w141 : pg_tb 1554 = some (.code (pg_mn 141) (pg_by 141) (pg_ml 141) (pg_rt 141)) := by rfl
set_option maxRecDepth 1000000 in
theorem pg_w142 : pg_tb 1606 = some (.code (pg_mn 142) (pg_by 142) (pg_ml 142) (pg_rt 142)) := by rfl
set_option maxRecDepth 1000000 in
theorem pg_w143 : pg_tb 1876 = some (.code (pg_mn 143) (pg_by 143) (pg_ml 143) (pg_rt 143)) := by rfl
set_option maxRecDepth 1000000 in
theorem pg_w144 : pg_tb 1880 = some (.code (pg_mn 144) (pg_by 144) (pg_ml 144) (pg_rt 144)) := by rfl
set_option maxRecDepth 1000000 in
theorem pg_w145 : pg_tb 1884 = some (.code (pg_mn 145) (pg_by 145) (pg_ml 145) (pg_rt 145)) := by rfl
set_option maxRecDepth 1000000 in
theorem pg_w146 : pg_tb 1891 = some (.code (pg_mn 146) (pg_by 146) (pg_ml 146) (pg_rt 146)) := by rfl
set_option maxRecDepth 1000000 in
theorem pg_w147 : pg_tb 1895 = some (.code (pg_mn 147) (pg_by 147) (pg_ml 147) (pg_rt 147)) := by rfl
set_option maxRecDepth 1000000 in
theorem pg_w148 : pg_tb 1900 = some (.code (pg_mn 148) (pg_by 148) (pg_ml 148) (pg_rt 148)) := by rfl
set_option maxRecDepth 1000000 in
theorem pg_w149 : pg_tb 1906 = some (.code (pg_mn 149) (pg_by 149) (pg_ml 149) (pg_rt 149)) := by rfl
set_option maxRecDepth 1000000 in
theorem pg_w150 : pg_tb 1918 = some (.code (pg_mn 150) (pg_by 150) (pg_ml 150) (pg_rt 150)) := by rfl
set_option maxRecDepth 1000000 in
theorem pg_w151 : pg_tb 1922 = some (.code (pg_mn 151) (pg_by 151) (pg_ml 151) (pg_rt 151)) := by rfl
set_option maxRecDepth 1000000 in
theorem pg_w152 : pg_tb 1928 = some (.code (pg_mn 152) (pg_by 152) (pg_ml 152) (pg_rt 152)) := by rfl
set_option maxRecDepth 1000000 in
theorem pg_w153 : pg_tb 1934 = some (.code (pg_mn 153) (pg_by 153) (pg_ml 153) (pg_rt 153)) := by rfl
set_option maxRecDepth 1000000 in
theorem pg_w154 : pg_tb 1940 = some (.code (pg_mn 154) (pg_by 154) (pg_ml 154) (pg_rt 154)) := by rfl
set_option maxRecDepth 1000000 in
theorem pg_w155 : pg_tb 1949 = some (.code (pg_mn 155) (pg_by 155) (pg_ml 155) (pg_rt 155)) := by rfl
set_option maxRecDepth 1000000 in
theorem pg_w156 : pg_tb 1954 = some (.code (pg_mn 156) (pg_by 156) (pg_ml 156) (pg_rt 156)) := by rfl
set_option maxRecDepth 1000000 in
theorem pg_w157 : pg_tb 1959 = some (.code (pg_mn 157) (pg_by 157) (pg_ml 157) (pg_rt 157)) := by rfl
set_option maxRecDepth 1000000 in
theorem pg_w158 : pg_tb 1963 = some (.code (pg_mn 158) (pg_by 158) (pg_ml 158) (pg_rt 158)) := by rfl
set_option maxRecDepth 1000000 in
theorem pg_w159 : pg_tb 286 = some (.code (pg_mn 159) (pg_by 159) (pg_ml 159) (pg_rt 159)) := by rfl
set_option maxRecDepth 1000000 in
theorem pg_w160 : pg_tb 509 = some (.code (pg_mn 160) (pg_by 160) (pg_ml 160) (pg_rt 160)) := by rfl
set_option maxRecDepth 1000000 in
theorem pg_w161 : pg_tb 1019 = some (.code (pg_mn 161) (pg_by 161) (pg_ml 161) (pg_rt 161)) := by rfl
set_option maxRecDepth 1000000 in
theorem pg_w162 : pg_tb 1026 = some (.code (pg_mn 162) (pg_by 162) (pg_ml 162) (pg_rt 162)) := by rfl
set_option maxRecDepth 1000000 in
theorem pg_w163 : pg_tb 1031 = some (.code (pg_mn 163) (pg_by 163) (pg_ml 163) (pg_rt 163)) := by rfl
set_option maxRecDepth 1000000 in
theorem pg_w164 : pg_tb 1035 = some (.code (pg_mn 164) (pg_by 164) (pg_ml 164) (pg_rt 164)) := by rfl
set_option maxRecDepth 1000000 in
theorem pg_w165 : pg_tb 1413 = some (.code (pg_mn 165) (pg_by 165) (pg_ml 165) (pg_rt 165)) := by rfl
set_option maxRecDepth 1000000 in
theorem pg_w166 : pg_tb 43 = some (.code (pg_mn 166) (pg_by 166) (pg_ml 166) (pg_rt 166)) := by rfl
set_option maxRecDepth 1000000 in
theorem pg_w167 : pg_tb 890 = some (.code (pg_mn 167) (pg_by 167) (pg_ml 167) (pg_rt 167)) := by rfl
set_option maxRecDepth 1000000 in
theorem pg_w168 : pg_tb 1440 = some (.code (pg_mn 168) (pg_by 168) (pg_ml 168) (pg_rt 168)) := by rfl
set_option maxRecDepth 1000000 in
theorem pg_w169 : pg_tb 1446 = some (.code (pg_mn 169) (pg_by 169) (pg_ml 169) (pg_rt 169)) := by rfl
set_option maxRecDepth 1000000 in
theorem pg_w170 : pg_tb 1450 = some (.code (pg_mn 170) (pg_by 170) (pg_ml 170) (pg_rt 170)) := by rfl
set_option maxRecDepth 1000000 in
theorem pg_w171 : pg_tb 1455 = some (.code (pg_mn 171) (pg_by 171) (pg_ml 171) (pg_rt 171)) := by rfl
set_option maxRecDepth 1000000 in
theorem pg_w172 : pg_tb 1484 = some (.code (pg_mn 172) (pg_by 172) (pg_ml 172) (pg_rt 172)) := by rfl
set_option maxRecDepth 1000000 in
theorem pg_w173 : pg_tb 1502 = some (.code (pg_mn 173) (pg_by 173) (pg_ml 173) (pg_rt 173)) := by rfl
set_option maxRecDepth 1000000 in
theorem pg_w174 : pg_tb 1562 = some (.code (pg_mn 174) (pg_by 174) (pg_ml 174) (pg_rt 174)) := by rfl
set_option maxRecDepth 1000000 in
theorem pg_w175 : pg_tb 1705 = some (.code (pg_mn 175) (pg_by 175) (pg_ml 175) (pg_rt 175)) := by rfl
set_option maxRecDepth 1000000 in
theorem pg_w176 : pg_tb 1711 = some (.code (pg_mn 176) (pg_by 176) (pg_ml 176) (pg_rt 176)) := by rfl
set_option maxRecDepth 1000000 in
theorem pg_w177 : pg_tb 1741 = some (.code (pg_mn 177) (pg_by 177) (pg_ml 177) (pg_rt 177)) := by rfl
set_option maxRecDepth 1000000 in
theorem pg_w178 : pg_tb 1751 = some (.code (pg_mn 178) (pg_by 178) (pg_ml 178) (pg_rt 178)) := by rfl
set_option maxRecDepth 1000000 in
theorem pg_w179 : pg_tb 1771 = some (.code (pg_mn 179) (pg_by 179) (pg_ml 179) (pg_rt 179)) := by rfl
set_option maxRecDepth 1000000 in
theorem pg_w180 : pg_tb 1778 = some (.code (pg_mn 180) (pg_by 180) (pg_ml 180) (pg_rt 180)) := by rfl
set_option maxRecDepth 1000000 in
theorem pg_w181 : pg_tb 2068 = some (.code (pg_mn 181) (pg_by 181) (pg_ml 181) (pg_rt 181)) := by rfl
set_option maxRecDepth 1000000 in
theorem pg_w182 : pg_tb 655 = some (.code (pg_mn 182) (pg_by 182) (pg_ml 182) (pg_rt 182)) := by rfl
set_option maxRecDepth 1000000 in
theorem pg_w183 : pg_tb 1575 = some (.code (pg_mn 183) (pg_by 183) (pg_ml 183) (pg_rt 183)) := by rfl
set_option maxRecDepth 1000000 in
theorem pg_w184 : pg_tb 1579 = some (.code (pg_mn 184) (pg_by 184) (pg_ml 184) (pg_rt 184)) := by rfl
set_option maxRecDepth 1000000 in
theorem pg_w185 : pg_tb 1586 = some (.code (pg_mn 185) (pg_by 185) (pg_ml 185) (pg_rt 185)) := by rfl
set_option maxRecDepth 1000000 in
theorem pg_w186 : pg_tb 1593 = some (.code (pg_mn 186) (pg_by 186) (pg_ml 186) (pg_rt 186)) := by rfl
set_option maxRecDepth 1000000 in
theorem pg_w187 : pg_tb 1601 = some (.code (pg_mn 187) (pg_by 187) (pg_ml 187) (pg_rt 187)) := by rfl
set_option maxRecDepth 1000000 in
theorem pg_w188 : pg_tb 1609 = some (.code (pg_mn 188) (pg_by 188) (pg_ml 188) (pg_rt 188)) := by rfl
set_option maxRecDepth 1000000 in
theorem pg_w189 : pg_tb 1615 = some (.code (pg_mn 189) (pg_by 189) (pg_ml 189) (pg_rt 189)) := by rfl
set_option maxRecDepth 1000000 in
theorem pg_w190 : pg_tb 1621 = some (.code (pg_mn 190) (pg_by 190) (pg_ml 190) (pg_rt 190)) := by rfl
set_option maxRecDepth 1000000 in
theorem pg_w191 : pg_tb 1626 = some (.code (pg_mn 191) (pg_by 191) (pg_ml 191) (pg_rt 191)) := by rfl
set_option maxRecDepth 1000000 in
theorem pg_w192 : pg_tb 1634 = some (.code (pg_mn 192) (pg_by 192) (pg_ml 192) (pg_rt 192)) := by rfl
set_option maxRecDepth 1000000 in
theorem pg_w193 : pg_tb 1638 = some (.code (pg_mn 193) (pg_by 193) (pg_ml 193) (pg_rt 193)) := by rfl
set_option maxRecDepth 1000000 in
theorem pg_w194 : pg_tb 1643 = some (.code (pg_mn 194) (pg_by 194) (pg_ml 194) (pg_rt 194)) := by rfl
set_option maxRecDepth 1000000 in
theorem pg_w195 : pg_tb 1649 = some (.code (pg_mn 195) (pg_by 195) (pg_ml 195) (pg_rt 195)) := by rfl
set_option maxRecDepth 1000000 in
theorem pg_w196 : pg_tb 1653 = some (.code (pg_mn 196) (pg_by 196) (pg_ml 196) (pg_rt 196)) := by rfl
set_option maxRecDepth 1000000 in
theorem pg_w197 : pg_tb 1663 = some (.code (pg_mn 197) (pg_by 197) (pg_ml 197) (pg_rt 197)) := by rfl
set_option maxRecDepth 1000000 in
theorem pg_w198 : pg_tb 1684 = some (.code (pg_mn 198) (pg_by 198) (pg_ml 198) (pg_rt 198)) := by rfl
set_option maxRecDepth 1000000 in
theorem pg_w199 : pg_tb 1687 = some (.code (pg_mn 199) (pg_by 199) (pg_ml 199) (pg_rt 199)) := by rfl
set_option maxRecDepth 1000000 in
theorem pg_w200 : pg_tb 1697 = some (.code (pg_mn 200) (pg_by 200) (pg_ml 200) (pg_rt 200)) := by rfl
set_option maxRecDepth 1000000 in
theorem pg_w201 : pg_tb 1701 = some (.code (pg_mn 201) (pg_by 201) (pg_ml 201) (pg_rt 201)) := by rfl
set_option maxRecDepth 1000000 in
theorem pg_w202 : pg_tb 1716 = some (.code (pg_mn 202) (pg_by 202) (pg_ml 202) (pg_rt 202)) := by rfl
set_option maxRecDepth 1000000 in
theorem pg_w203 : pg_tb 2013 = some (.code (pg_mn 203) (pg_by 203) (pg_ml 203) (pg_rt 203)) := by rfl
set_option maxRecDepth 1000000 in
theorem pg_w204 : pg_tb 2018 = some (.code (pg_mn 204) (pg_by 204) (pg_ml 204) (pg_rt 204)) := by rfl
set_option maxRecDepth 1000000 in
theorem pg_w205 : pg_tb 2023 = some (.code (pg_mn 205) (pg_by 205) (pg_ml 205) (pg_rt 205)) := by rfl
set_option maxRecDepth 1000000 in
theorem pg_w206 : pg_tb 2063 = some (.code (pg_mn 206) (pg_by 206) (pg_ml 206) (pg_rt 206)) := by rfl
set_option maxRecDepth 1000000 in
theorem pg_w207 : pg_tb 2072 = some (.code (pg_mn 207) (pg_by 207) (pg_ml 207) (pg_rt 207)) := by rfl
set_option maxRecDepth 1000000 in
theorem pg_w208 : pg_tb 2097 = some (.code (pg_mn 208) (pg_by 208) (pg_ml 208) (pg_rt 208)) := by rfl
set_option maxRecDepth 1000000 in
theorem pg_w209 : pg_tb 2169 = some (.code (pg_mn 209) (pg_by 209) (pg_ml 209) (pg_rt 209)) := by rfl
set_option maxRecDepth 1000000 in
theorem pg_w210 : pg_tb 2568 = some (.code (pg_mn 210) (pg_by 210) (pg_ml 210) (pg_rt 210)) := by rfl
set_option maxRecDepth 1000000 in
theorem pg_w211 : pg_tb 2572 = some (.code (pg_mn 211) (pg_by 211) (pg_ml 211) (pg_rt 211)) := by rfl
set_option maxRecDepth 1000000 in
theorem pg_w212 : pg_tb 2576 = some (.code (pg_mn 212) (pg_by 212) (pg_ml 212) (pg_rt 212)) := by rfl
set_option maxRecDepth 1000000 in
theorem pg_w213 : pg_tb 2580 = some (.code (pg_mn 213) (pg_by 213) (pg_ml 213) (pg_rt 213)) := by rfl
set_option maxRecDepth 1000000 in
theorem pg_w214 : pg_tb 2584 = some (.code (pg_mn 214) (pg_by 214) (pg_ml 214) (pg_rt 214)) := by rfl
set_option maxRecDepth 1000000 in
theorem pg_w215 : pg_tb 2588 = some (.code (pg_mn 215) (pg_by 215) (pg_ml 215) (pg_rt 215)) := by rfl
set_option maxRecDepth 1000000 in
theorem pg_w216 : pg_tb 2593 = some (.code (pg_mn 216) (pg_by 216) (pg_ml 216) (pg_rt 216)) := by rfl
set_option maxRecDepth 1000000 in
theorem pg_w217 : pg_tb 2597 = some (.code (pg_mn 217) (pg_by 217) (pg_ml 217) (pg_rt 217)) := by rfl
set_option maxRecDepth 1000000 in
theorem pg_w218 : pg_tb 2604 = some (.code (pg_mn 218) (pg_by 218) (pg_ml 218) (pg_rt 218)) := by rfl
set_option maxRecDepth 1000000 in
theorem pg_w219 : pg_tb 2607 = some (.code (pg_mn 219) (pg_by 219) (pg_ml 219) (pg_rt 219)) := by rfl
set_option maxRecDepth 1000000 in
theorem pg_w220 : pg_tb 2611 = some (.code (pg_mn 220) (pg_by 220) (pg_ml 220) (pg_rt 220)) := by rfl
set_option maxRecDepth 1000000 in
theorem pg_w221 : pg_tb 2615 = some (.code (pg_mn 221) (pg_by 221) (pg_ml 221) (pg_rt 221)) := by rfl
set_option maxRecDepth 1000000 in
theorem pg_w222 : pg_tb 2619 = some (.code (pg_mn 222) (pg_by 222) (pg_ml 222) (pg_rt 222)) := by rfl
set_option maxRecDepth 1000000 in
theorem pg_w223 : pg_tb 2624 = some (.code (pg_mn 223) (pg_by 223) (pg_ml 223) (pg_rt 223)) := by rfl
set_option maxRecDepth 1000000 in
theorem pg_w224 : pg_tb 2628 = some (.code (pg_mn 224) (pg_by 224) (pg_ml 224) (pg_rt 224)) := by rfl
set_option maxRecDepth 1000000 in
theorem pg_w225 : pg_tb 2632 = some (.code (pg_mn 225) (pg_by 225) (pg_ml 225) (pg_rt 225)) := by rfl
set_option maxRecDepth 1000000 in
theorem pg_w226 : pg_tb 2636 = some (.code (pg_mn 226) (pg_by 226) (pg_ml 226) (pg_rt 226)) := by rfl
set_option maxRecDepth 1000000 in
theorem pg_w227 : pg_tb 2642 = some (.code (pg_mn 227) (pg_by 227) (pg_ml 227) (pg_rt 227)) := by rfl
set_option maxRecDepth 1000000 in
theorem pg_w228 : pg_tb 2645 = some (.code (pg_mn 228) (pg_by 228) (pg_ml 228) (pg_rt 228)) := by rfl
set_option maxRecDepth 1000000 in
theorem pg_w229 : pg_tb 2650 = some (.code (pg_mn 229) (pg_by 229) (pg_ml 229) (pg_rt 229)) := by rfl
set_option maxRecDepth 1000000 in
theorem pg_w230 : pg_tb 2654 = some (.code (pg_mn 230) (pg_by 230) (pg_ml 230) (pg_rt 230)) := by rfl
set_option maxRecDepth 1000000 in
theorem pg_w231 : pg_tb 2660 = some (.code (pg_mn 231) (pg_by 231) (pg_ml 231) (pg_rt 231)) := by rfl
set_option maxRecDepth 1000000 in
theorem pg_w232 : pg_tb 2665 = some (.code (pg_mn 232) (pg_by 232) (pg_ml 232) (pg_rt 232)) := by rfl
set_option maxRecDepth 1000000 in
theorem pg_w233 : pg_tb 2669 = some (.code (pg_mn 233) (pg_by 233) (pg_ml 233) (pg_rt 233)) := by rfl
set_option maxRecDepth 1000000 in
theorem pg_w234 : pg_tb 2673 = some (.code (pg_mn 234) (pg_by 234) (pg_ml 234) (pg_rt 234)) := by rfl
set_option maxRecDepth 1000000 in
theorem pg_w235 : pg_tb 2677 = some (.code (pg_mn 235) (pg_by 235) (pg_ml 235) (pg_rt 235)) := by rfl
set_option maxRecDepth 1000000 in
theorem pg_w236 : pg_tb 2681 = some (.code (pg_mn 236) (pg_by 236) (pg_ml 236) (pg_rt 236)) := by rfl
set_option maxRecDepth 1000000 in
theorem pg_w237 : pg_tb 2687 = some (.code (pg_mn 237) (pg_by 237) (pg_ml 237) (pg_rt 237)) := by rfl
set_option maxRecDepth 1000000 in
theorem pg_w238 : pg_tb 2691 = some (.code (pg_mn 238) (pg_by 238) (pg_ml 238) (pg_rt 238)) := by rfl
set_option maxRecDepth 1000000 in
theorem pg_w239 : pg_tb 2695 = some (.code (pg_mn 239) (pg_by 239) (pg_ml 239) (pg_rt 239)) := by rfl
set_option maxRecDepth 1000000 in
theorem pg_w240 : pg_tb 2699 = some (.code (pg_mn 240) (pg_by 240) (pg_ml 240) (pg_rt 240)) := by rfl
set_option maxRecDepth 1000000 in
theorem pg_w241 : pg_tb 2703 = some (.code (pg_mn 241) (pg_by 241) (pg_ml 241) (pg_rt 241)) := by rfl
set_option maxRecDepth 1000000 in
theorem pg_w242 : pg_tb 2708 = some (.code (pg_mn 242) (pg_by 242) (pg_ml 242) (pg_rt 242)) := by rfl
set_option maxRecDepth 1000000 in
theorem pg_w243 : pg_tb 2712 = some (.code (pg_mn 243) (pg_by 243) (pg_ml 243) (pg_rt 243)) := by rfl
set_option maxRecDepth 1000000 in
theorem pg_w244 : pg_tb 2716 = some (.code (pg_mn 244) (pg_by 244) (pg_ml 244) (pg_rt 244)) := by rfl
set_option maxRecDepth 1000000 in
theorem pg_w245 : pg_tb 2720 = some (.code (pg_mn 245) (pg_by 245) (pg_ml 245) (pg_rt 245)) := by rfl
set_option maxRecDepth 1000000 in
theorem pg_w246 : pg_tb 2723 = some (.code (pg_mn 246) (pg_by 246) (pg_ml 246) (pg_rt 246)) := by rfl
set_option maxRecDepth 1000000 in
theorem pg_w247 : pg_tb 2730 = some (.code (pg_mn 247) (pg_by 247) (pg_ml 247) (pg_rt 247)) := by rfl
set_option maxRecDepth 1000000 in
theorem pg_w248 : pg_tb 2738 = some (.code (pg_mn 248) (pg_by 248) (pg_ml 248) (pg_rt 248)) := by rfl
set_option maxRecDepth 1000000 in
theorem pg_w249 : pg_tb 2742 = some (.code (pg_mn 249) (pg_by 249) (pg_ml 249) (pg_rt 249)) := by rfl
set_option maxRecDepth 1000000 in
theorem pg_w250 : pg_tb 2747 = some (.code (pg_mn 250) (pg_by 250) (pg_ml 250) (pg_rt 250)) := by rfl
set_option maxRecDepth 1000000 in
theorem pg_w251 : pg_tb 2751 = some (.code (pg_mn 251) (pg_by 251) (pg_ml 251) (pg_rt 251)) := by rfl
set_option maxRecDepth 1000000 in
theorem pg_w252 : pg_tb 2755 = some (.code (pg_mn 252) (pg_by 252) (pg_ml 252) (pg_rt 252)) := by rfl
set_option maxRecDepth 1000000 in
theorem pg_w253 : pg_tb 2760 = some (.code (pg_mn 253) (pg_by 253) (pg_ml 253) (pg_rt 253)) := by rfl
set_option maxRecDepth 1000000 in
theorem pg_w254 : pg_tb 2764 = some (.code (pg_mn 254) (pg_by 254) (pg_ml 254) (pg_rt 254)) := by rfl
set_option maxRecDepth 1000000 in
theorem pg_w255 : pg_tb 2768 = some (.code (pg_mn 255) (pg_by 255) (pg_ml 255) (pg_rt 255)) := by rfl
set_option maxRecDepth 1000000 in
theorem pg_w256 : pg_tb 2772 = some (.code (pg_mn 256) (pg_by 256) (pg_ml 256) (pg_rt 256)) := by rfl
set_option maxRecDepth 1000000 in
theorem pg_w257 : pg_tb 2776 = some (.code (pg_mn 257) (pg_by 257) (pg_ml 257) (pg_rt 257)) := by rfl
set_option maxRecDepth 1000000 in
theorem pg_w258 : pg_tb 2780 = some (.code (pg_mn 258) (pg_by 258) (pg_ml 258) (pg_rt 258)) := by rfl
set_option maxRecDepth 1000000 in
theorem pg_w259 : pg_tb 2784 = some (.code (pg_mn 259) (pg_by 259) (pg_ml 259) (pg_rt 259)) := by rfl
set_option maxRecDepth 1000000 in
theorem pg_w260 : pg_tb 2788 = some (.code (pg_mn 260) (pg_by 260) (pg_ml 260) (pg_rt 260)) := by rfl
set_option maxRecDepth 1000000 in
theorem pg_w261 : pg_tb 2792 = some (.code (pg_mn 261) (pg_by 261) (pg_ml 261) (pg_rt 261)) := by rfl
set_option maxRecDepth 1000000 in
theorem pg_w262 : pg_tb 2796 = some (.code (pg_mn 262) (pg_by 262) (pg_ml 262) (pg_rt 262)) := by rfl
set_option maxRecDepth 1000000 in
theorem pg_w263 : pg_tb 2800 = some (.code (pg_mn 263) (pg_by 263) (pg_ml 263) (pg_rt 263)) := by rfl
set_option maxRecDepth 1000000 in
theorem pg_w264 : pg_tb 2804 = some (.code (pg_mn 264) (pg_by 264) (pg_ml 264) (pg_rt 264)) := by rfl
set_option maxRecDepth 1000000 in
theorem pg_w265 : pg_tb 2808 = some (.code (pg_mn 265) (pg_by 265) (pg_ml 265) (pg_rt 265)) := by rfl
set_option maxRecDepth 1000000 in
theorem pg_w266 : pg_tb 2812 = some (.code (pg_mn 266) (pg_by 266) (pg_ml 266) (pg_rt 266)) := by rfl
set_option maxRecDepth 1000000 in
theorem pg_w267 : pg_tb 2816 = some (.code (pg_mn 267) (pg_by 267) (pg_ml 267) (pg_rt 267)) := by rfl
set_option maxRecDepth 1000000 in
theorem pg_w268 : pg_tb 2820 = some (.code (pg_mn 268) (pg_by 268) (pg_ml 268) (pg_rt 268)) := by rfl
set_option maxRecDepth 1000000 in
theorem pg_w269 : pg_tb 2824 = some (.code (pg_mn 269) (pg_by 269) (pg_ml 269) (pg_rt 269)) := by rfl
set_option maxRecDepth 1000000 in
theorem pg_w270 : pg_tb 2828 = some (.code (pg_mn 270) (pg_by 270) (pg_ml 270) (pg_rt 270)) := by rfl
set_option maxRecDepth 1000000 in
theorem pg_w271 : pg_tb 2832 = some (.code (pg_mn 271) (pg_by 271) (pg_ml 271) (pg_rt 271)) := by rfl
set_option maxRecDepth 1000000 in
theorem pg_w272 : pg_tb 2836 = some (.code (pg_mn 272) (pg_by 272) (pg_ml 272) (pg_rt 272)) := by rfl
set_option maxRecDepth 1000000 in
theorem pg_w273 : pg_tb 2840 = some (.code (pg_mn 273) (pg_by 273) (pg_ml 273) (pg_rt 273)) := by rfl
set_option maxRecDepth 1000000 in
theorem pg_w274 : pg_tb 2844 = some (.code (pg_mn 274) (pg_by 274) (pg_ml 274) (pg_rt 274)) := by rfl
set_option maxRecDepth 1000000 in
theorem pg_w275 : pg_tb 2848 = some (.code (pg_mn 275) (pg_by 275) (pg_ml 275) (pg_rt 275)) := by rfl
set_option maxRecDepth 1000000 in
theorem pg_w276 : pg_tb 2852 = some (.code (pg_mn 276) (pg_by 276) (pg_ml 276) (pg_rt 276)) := by rfl
set_option maxRecDepth 1000000 in
theorem pg_w277 : pg_tb 2856 = some (.code (pg_mn 277) (pg_by 277) (pg_ml 277) (pg_rt 277)) := by rfl
set_option maxRecDepth 1000000 in
theorem pg_w278 : pg_tb 2860 = some (.code (pg_mn 278) (pg_by 278) (pg_ml 278) (pg_rt 278)) := by rfl
set_option maxRecDepth 1000000 in
theorem pg_w279 : pg_tb 2864 = some (.code (pg_mn 279) (pg_by 279) (pg_ml 279) (pg_rt 279)) := by rfl
set_option maxRecDepth 1000000 in
theorem pg_w280 : pg_tb 2868 = some (.code (pg_mn 280) (pg_by 280) (pg_ml 280) (pg_rt 280)) := by rfl
set_option maxRecDepth 1000000 in
theorem pg_w281 : pg_tb 2872 = some (.code (pg_mn 281) (pg_by 281) (pg_ml 281) (pg_rt 281)) := by rfl
set_option maxRecDepth 1000000 in
theorem pg_w282 : pg_tb 2876 = some (.code (pg_mn 282) (pg_by 282) (pg_ml 282) (pg_rt 282)) := by rfl
set_option maxRecDepth 1000000 in
theorem pg_w283 : pg_tb 2880 = some (.code (pg_mn 283) (pg_by 283) (pg_ml 283) (pg_rt 283)) := by rfl
set_option maxRecDepth 1000000 in
theorem pg_w284 : pg_tb 2884 = some (.code (pg_mn 284) (pg_by 284) (pg_ml 284) (pg_rt 284)) := by rfl
set_option maxRecDepth 1000000 in
theorem pg_w285 : pg_tb 2888 = some (.code (pg_mn 285) (pg_by 285) (pg_ml 285) (pg_rt 285)) := by rfl
set_option maxRecDepth 1000000 in
theorem pg_w286 : pg_tb 2892 = some (.code (pg_mn 286) (pg_by 286) (pg_ml 286) (pg_rt 286)) := by rfl
set_option maxRecDepth 1000000 in
theorem pg_w287 : pg_tb 2896 = some (.code (pg_mn 287) (pg_by 287) (pg_ml 287) (pg_rt 287)) := by rfl
set_option maxRecDepth 1000000 in
theorem pg_w288 : pg_tb 2900 = some (.code (pg_mn 288) (pg_by 288) (pg_ml 288) (pg_rt 288)) := by rfl
set_option maxRecDepth 1000000 in
theorem pg_w289 : pg_tb 2905 = some (.code (pg_mn 289) (pg_by 289) (pg_ml 289) (pg_rt 289)) := by rfl
set_option maxRecDepth 1000000 in
theorem pg_w290 : pg_tb 2909 = some (.code (pg_mn 290) (pg_by 290) (pg_ml 290) (pg_rt 290)) := by rfl
set_option maxRecDepth 1000000 in
theorem pg_w291 : pg_tb 2913 = some (.code (pg_mn 291) (pg_by 291) (pg_ml 291) (pg_rt 291)) := by rfl
set_option maxRecDepth 1000000 in
theorem pg_w292 : pg_tb 2917 = some (.code (pg_mn 292) (pg_by 292) (pg_ml 292) (pg_rt 292)) := by rfl
set_option maxRecDepth 1000000 in
theorem pg_w293 : pg_tb 2921 = some (.code (pg_mn 293) (pg_by 293) (pg_ml 293) (pg_rt 293)) := by rfl
set_option maxRecDepth 1000000 in
theorem pg_w294 : pg_tb 2925 = some (.code (pg_mn 294) (pg_by 294) (pg_ml 294) (pg_rt 294)) := by rfl
set_option maxRecDepth 1000000 in
theorem pg_w295 : pg_tb 2929 = some (.code (pg_mn 295) (pg_by 295) (pg_ml 295) (pg_rt 295)) := by rfl
set_option maxRecDepth 1000000 in
theorem pg_w296 : pg_tb 2933 = some (.code (pg_mn 296) (pg_by 296) (pg_ml 296) (pg_rt 296)) := by rfl
set_option maxRecDepth 1000000 in
theorem pg_w297 : pg_tb 2938 = some (.code (pg_mn 297) (pg_by 297) (pg_ml 297) (pg_rt 297)) := by rfl
set_option maxRecDepth 1000000 in
theorem pg_w298 : pg_tb 2942 = some (.code (pg_mn 298) (pg_by 298) (pg_ml 298) (pg_rt 298)) := by rfl
set_option maxRecDepth 1000000 in
theorem pg_w299 : pg_tb 2946 = some (.code (pg_mn 299) (pg_by 299) (pg_ml 299) (pg_rt 299)) := by rfl
set_option maxRecDepth 1000000 in
theorem pg_w300 : pg_tb 2950 = some (.code (pg_mn 300) (pg_by 300) (pg_ml 300) (pg_rt 300)) := by rfl
set_option maxRecDepth 1000000 in
theorem pg_w301 : pg_tb 2954 = some (.code (pg_mn 301) (pg_by 301) (pg_ml 301) (pg_rt 301)) := by rfl
set_option maxRecDepth 1000000 in
theorem pg_w302 : pg_tb 2957 = some (.code (pg_mn 302) (pg_by 302) (pg_ml 302) (pg_rt 302)) := by rfl
set_option maxRecDepth 1000000 in
theorem pg_w303 : pg_tb 2961 = some (.code (pg_mn 303) (pg_by 303) (pg_ml 303) (pg_rt 303)) := by rfl
set_option maxRecDepth 1000000 in
theorem pg_w304 : pg_tb 2965 = some (.code (pg_mn 304) (pg_by 304) (pg_ml 304) (pg_rt 304)) := by rfl
set_option maxRecDepth 1000000 in
theorem pg_w305 : pg_tb 2971 = some (.code (pg_mn 305) (pg_by 305) (pg_ml 305) (pg_rt 305)) := by rfl
set_option maxRecDepth 1000000 in
theorem pg_w306 : pg_tb 2975 = some (.code (pg_mn 306) (pg_by 306) (pg_ml 306) (pg_rt 306)) := by rfl
set_option maxRecDepth 1000000 in
theorem pg_w307 : pg_tb 2979 = some (.code (pg_mn 307) (pg_by 307) (pg_ml 307) (pg_rt 307)) := by rfl
set_option maxRecDepth 1000000 in
theorem pg_w308 : pg_tb 2983 = some (.code (pg_mn 308) (pg_by 308) (pg_ml 308) (pg_rt 308)) := by rfl
set_option maxRecDepth 1000000 in
theorem pg_w309 : pg_tb 2987 = some (.code (pg_mn 309) (pg_by 309) (pg_ml 309) (pg_rt 309)) := by rfl
set_option maxRecDepth 1000000 in
theorem pg_w310 : pg_tb 2992 = some (.code (pg_mn 310) (pg_by 310) (pg_ml 310) (pg_rt 310)) := by rfl
set_option maxRecDepth 1000000 in
theorem pg_w311 : pg_tb 2997 = some (.code (pg_mn 311) (pg_by 311) (pg_ml 311) (pg_rt 311)) := by rfl
set_option maxRecDepth 1000000 in
theorem pg_w312 : pg_tb 3001 = some (.code (pg_mn 312) (pg_by 312) (pg_ml 312) (pg_rt 312)) := by rfl
set_option maxRecDepth 1000000 in
theorem pg_w313 : pg_tb 3005 = some (.code (pg_mn 313) (pg_by 313) (pg_ml 313) (pg_rt 313)) := by rfl
set_option maxRecDepth 1000000 in
theorem pg_w314 : pg_tb 3009 = some (.code (pg_mn 314) (pg_by 314) (pg_ml 314) (pg_rt 314)) := by rfl
set_option maxRecDepth 1000000 in
theorem pg_w315 : pg_tb 3013 = some (.code (pg_mn 315) (pg_by 315) (pg_ml 315) (pg_rt 315)) := by rfl
set_option maxRecDepth 1000000 in
theorem pg_w316 : pg_tb 3017 = some (.code (pg_mn 316) (pg_by 316) (pg_ml 316) (pg_rt 316)) := by rfl
set_option maxRecDepth 1000000 in
theorem pg_w317 : pg_tb 3021 = some (.code (pg_mn 317) (pg_by 317) (pg_ml 317) (pg_rt 317)) := by rfl
set_option maxRecDepth 1000000 in
theorem pg_w318 : pg_tb 3025 = some (.code (pg_mn 318) (pg_by 318) (pg_ml 318) (pg_rt 318)) := by rfl
set_option maxRecDepth 1000000 in
theorem pg_w319 : pg_tb 3029 = some (.code (pg_mn 319) (pg_by 319) (pg_ml 319) (pg_rt 319)) := by rfl
set_option maxRecDepth 1000000 in
theorem pg_w320 : pg_tb 3033 = some (.code (pg_mn 320) (pg_by 320) (pg_ml 320) (pg_rt 320)) := by rfl
set_option maxRecDepth 1000000 in
theorem pg_w321 : pg_tb 3037 = some (.code (pg_mn 321) (pg_by 321) (pg_ml 321) (pg_rt 321)) := by rfl
set_option maxRecDepth 1000000 in
theorem pg_w322 : pg_tb 3042 = some (.code (pg_mn 322) (pg_by 322) (pg_ml 322) (pg_rt 322)) := by rfl
set_option maxRecDepth 1000000 in
theorem pg_w323 : pg_tb 3048 = some (.code (pg_mn 323) (pg_by 323) (pg_ml 323) (pg_rt 323)) := by rfl
set_option maxRecDepth 1000000 in
theorem pg_w324 : pg_tb 3055 = some (.code (pg_mn 324) (pg_by 324) (pg_ml 324) (pg_rt 324)) := by rfl
set_option maxRecDepth 1000000 in
theorem pg_w325 : pg_tb 3059 = some (.code (pg_mn 325) (pg_by 325) (pg_ml 325) (pg_rt 325)) := by rfl
set_option maxRecDepth 1000000 in
theorem pg_w326 : pg_tb 3063 = some (.code (pg_mn 326) (pg_by 326) (pg_ml 326) (pg_rt 326)) := by rfl
set_option maxRecDepth 1000000 in
theorem pg_w327 : pg_tb 3067 = some (.code (pg_mn 327) (pg_by 327) (pg_ml 327) (pg_rt 327)) := by rfl
set_option maxRecDepth 1000000 in
theorem pg_w328 : pg_tb 3072 = some (.code (pg_mn 328) (pg_by 328) (pg_ml 328) (pg_rt 328)) := by rfl
set_option maxRecDepth 1000000 in
theorem pg_w329 : pg_tb 3076 = some (.code (pg_mn 329) (pg_by 329) (pg_ml 329) (pg_rt 329)) := by rfl
set_option maxRecDepth 1000000 in
theorem pg_w330 : pg_tb 3080 = some (.code (pg_mn 330) (pg_by 330) (pg_ml 330) (pg_rt 330)) := by rfl
set_option maxRecDepth 1000000 in
theorem pg_w331 : pg_tb 3084 = some (.code (pg_mn 331) (pg_by 331) (pg_ml 331) (pg_rt 331)) := by rfl
set_option maxRecDepth 1000000 in
theorem pg_w332 : pg_tb 3089 = some (.code (pg_mn 332) (pg_by 332) (pg_ml 332) (pg_rt 332)) := by rfl
set_option maxRecDepth 1000000 in
theorem pg_w333 : pg_tb 3093 = some (.code (pg_mn 333) (pg_by 333) (pg_ml 333) (pg_rt 333)) := by rfl
set_option maxRecDepth 1000000 in
theorem pg_w334 : pg_tb 3097 = some (.code (pg_mn 334) (pg_by 334) (pg_ml 334) (pg_rt 334)) := by rfl
set_option maxRecDepth 1000000 in
theorem pg_w335 : pg_tb 3101 = some (.code (pg_mn 335) (pg_by 335) (pg_ml 335) (pg_rt 335)) := by rfl
set_option maxRecDepth 1000000 in
theorem pg_w336 : pg_tb 3105 = some (.code (pg_mn 336) (pg_by 336) (pg_ml 336) (pg_rt 336)) := by rfl
set_option maxRecDepth 1000000 in
theorem pg_w337 : pg_tb 3109 = some (.code (pg_mn 337) (pg_by 337) (pg_ml 337) (pg_rt 337)) := by rfl
set_option maxRecDepth 1000000 in
theorem pg_w338 : pg_tb 3113 = some (.code (pg_mn 338) (pg_by 338) (pg_ml 338) (pg_rt 338)) := by rfl
set_option maxRecDepth 1000000 in
theorem pg_w339 : pg_tb 3117 = some (.code (pg_mn 339) (pg_by 339) (pg_ml 339) (pg_rt 339)) := by rfl
set_option maxRecDepth 1000000 in
theorem pg_w340 : pg_tb 3121 = some (.code (pg_mn 340) (pg_by 340) (pg_ml 340) (pg_rt 340)) := by rfl
set_option maxRecDepth 1000000 in
theorem pg_w341 : pg_tb 3125 = some (.code (pg_mn 341) (pg_by 341) (pg_ml 341) (pg_rt 341)) := by rfl
set_option maxRecDepth 1000000 in
theorem pg_w342 : pg_tb 3129 = some (.code (pg_mn 342) (pg_by 342) (pg_ml 342) (pg_rt 342)) := by rfl
set_option maxRecDepth 1000000 in
theorem pg_w343 : pg_tb 3133 = some (.code (pg_mn 343) (pg_by 343) (pg_ml 343) (pg_rt 343)) := by rfl
set_option maxRecDepth 1000000 in
theorem pg_w344 : pg_tb 3137 = some (.code (pg_mn 344) (pg_by 344) (pg_ml 344) (pg_rt 344)) := by rfl
set_option maxRecDepth 1000000 in
theorem pg_w345 : pg_tb 3141 = some (.code (pg_mn 345) (pg_by 345) (pg_ml 345) (pg_rt 345)) := by rfl
set_option maxRecDepth 1000000 in
theorem pg_w346 : pg_tb 3145 = some (.code (pg_mn 346) (pg_by 346) (pg_ml 346) (pg_rt 346)) := by rfl
set_option maxRecDepth 1000000 in
theorem pg_w347 : pg_tb 3149 = some (.code (pg_mn 347) (pg_by 347) (pg_ml 347) (pg_rt 347)) := by rfl
set_option maxRecDepth 1000000 in
theorem pg_w348 : pg_tb 3153 = some (.code (pg_mn 348) (pg_by 348) (pg_ml 348) (pg_rt 348)) := by rfl
set_option maxRecDepth 1000000 in
theorem pg_w349 : pg_tb 3157 = some (.code (pg_mn 349) (pg_by 349) (pg_ml 349) (pg_rt 349)) := by rfl
set_option maxRecDepth 1000000 in
theorem pg_w350 : pg_tb 3161 = some (.code (pg_mn 350) (pg_by 350) (pg_ml 350) (pg_rt 350)) := by rfl
set_option maxRecDepth 1000000 in
theorem pg_w351 : pg_tb 3165 = some (.code (pg_mn 351) (pg_by 351) (pg_ml 351) (pg_rt 351)) := by rfl
set_option maxRecDepth 1000000 in
theorem pg_w352 : pg_tb 3169 = some (.code (pg_mn 352) (pg_by 352) (pg_ml 352) (pg_rt 352)) := by rfl
set_option maxRecDepth 1000000 in
theorem pg_w353 : pg_tb 3173 = some (.code (pg_mn 353) (pg_by 353) (pg_ml 353) (pg_rt 353)) := by rfl
set_option maxRecDepth 1000000 in
theorem pg_w354 : pg_tb 3177 = some (.code (pg_mn 354) (pg_by 354) (pg_ml 354) (pg_rt 354)) := by rfl
set_option maxRecDepth 1000000 in
theorem pg_w355 : pg_tb 3181 = some (.code (pg_mn 355) (pg_by 355) (pg_ml 355) (pg_rt 355)) := by rfl
set_option maxRecDepth 1000000 in
theorem pg_w356 : pg_tb 3185 = some (.code (pg_mn 356) (pg_by 356) (pg_ml 356) (pg_rt 356)) := by rfl
set_option maxRecDepth 1000000 in
theorem pg_w357 : pg_tb 3190 = some (.code (pg_mn 357) (pg_by 357) (pg_ml 357) (pg_rt 357)) := by rfl
set_option maxRecDepth 1000000 in
theorem pg_w358 : pg_tb 3194 = some (.code (pg_mn 358) (pg_by 358) (pg_ml 358) (pg_rt 358)) := by rfl
set_option maxRecDepth 1000000 in
theorem pg_w359 : pg_tb 3197 = some (.code (pg_mn 359) (pg_by 359) (pg_ml 359) (pg_rt 359)) := by rfl
set_option maxRecDepth 1000000 in
theorem pg_w360 : pg_tb 3201 = some (.code (pg_mn 360) (pg_by 360) (pg_ml 360) (pg_rt 360)) := by rfl
set_option maxRecDepth 1000000 in
theorem pg_w361 : pg_tb 3205 = some (.code (pg_mn 361) (pg_by 361) (pg_ml 361) (pg_rt 361)) := by rfl
set_option maxRecDepth 1000000 in
theorem pg_w362 : pg_tb 3209 = some (.code (pg_mn 362) (pg_by 362) (pg_ml 362) (pg_rt 362)) := by rfl
set_option maxRecDepth 1000000 in
theorem pg_w363 : pg_tb 3213 = some (.code (pg_mn 363) (pg_by 363) (pg_ml 363) (pg_rt 363)) := by rfl
set_option maxRecDepth 1000000 in
theorem pg_w364 : pg_tb 3217 = some (.code (pg_mn 364) (pg_by 364) (pg_ml 364) (pg_rt 364)) := by rfl
set_option maxRecDepth 1000000 in
theorem pg_w365 : pg_tb 3221 = some (.code (pg_mn 365) (pg_by 365) (pg_ml 365) (pg_rt 365)) := by rfl
set_option maxRecDepth 1000000 in
theorem pg_w366 : pg_tb 3226 = some (.code (pg_mn 366) (pg_by 366) (pg_ml 366) (pg_rt 366)) := by rfl
set_option maxRecDepth 1000000 in
theorem pg_w367 : pg_tb 3230 = some (.code (pg_mn 367) (pg_by 367) (pg_ml 367) (pg_rt 367)) := by rfl
set_option maxRecDepth 1000000 in
theorem pg_w368 : pg_tb 3234 = some (.code (pg_mn 368) (pg_by 368) (pg_ml 368) (pg_rt 368)) := by rfl
set_option maxRecDepth 1000000 in
theorem pg_w369 : pg_tb 3238 = some (.code (pg_mn 369) (pg_by 369) (pg_ml 369) (pg_rt 369)) := by rfl
set_option maxRecDepth 1000000 in
theorem pg_w370 : pg_tb 3242 = some (.code (pg_mn 370) (pg_by 370) (pg_ml 370) (pg_rt 370)) := by rfl
set_option maxRecDepth 1000000 in
theorem pg_w371 : pg_tb 3246 = some (.code (pg_mn 371) (pg_by 371) (pg_ml 371) (pg_rt 371)) := by rfl
set_option maxRecDepth 1000000 in
theorem pg_w372 : pg_tb 3250 = some (.code (pg_mn 372) (pg_by 372) (pg_ml 372) (pg_rt 372)) := by rfl
set_option maxRecDepth 1000000 in
theorem pg_w373 : pg_tb 3254 = some (.code (pg_mn 373) (pg_by 373) (pg_ml 373) (pg_rt 373)) := by rfl
set_option maxRecDepth 1000000 in
theorem pg_w374 : pg_tb 3258 = some (.code (pg_mn 374) (pg_by 374) (pg_ml 374) (pg_rt 374)) := by rfl
set_option maxRecDepth 1000000 in
theorem pg_w375 : pg_tb 3262 = some (.code (pg_mn 375) (pg_by 375) (pg_ml 375) (pg_rt 375)) := by rfl
set_option maxRecDepth 1000000 in
theorem pg_w376 : pg_tb 3266 = some (.code (pg_mn 376) (pg_by 376) (pg_ml 376) (pg_rt 376)) := by rfl
set_option maxRecDepth 1000000 in
theorem pg_w377 : pg_tb 3270 = some (.code (pg_mn 377) (pg_by 377) (pg_ml 377) (pg_rt 377)) := by rfl
set_option maxRecDepth 1000000 in
theorem pg_w378 : pg_tb 1045 = some (.code (pg_mn 378) (pg_by 378) (pg_ml 378) (pg_rt 378)) := by rfl
set_option maxRecDepth 1000000 in
theorem pg_w379 : pg_tb 1048 = some (.code (pg_mn 379) (pg_by 379) (pg_ml 379) (pg_rt 379)) := by rfl
set_option maxRecDepth 1000000 in
theorem pg_w380 : pg_tb 1361 = some (.code (pg_mn 380) (pg_by 380) (pg_ml 380) (pg_rt 380)) := by rfl
set_option maxRecDepth 1000000 in
theorem pg_w381 : pg_tb 1461 = some (.code (pg_mn 381) (pg_by 381) (pg_ml 381) (pg_rt 381)) := by rfl
