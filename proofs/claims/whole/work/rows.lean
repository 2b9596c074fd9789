section
/-! the tables of the pure machine: classes, fields, methods, links, printed by a program (wip/tools/gen01.py) out of claim/Statement.lean -/
def pg_Ts : List Cond := tables_1.filter goodWord
theorem pg_good (w : Cond) (h : w ∈ pg_Ts) : (w.onTables && w.keeps) = true ∨ ∃ ty, w = .arrayClass ty := good_of_word (List.mem_filter.mp h).2
theorem pg_at {i : Nat} {w : Cond} (h : tables_1[i]? = some w) (hg : goodWord w = true) : w ∈ pg_Ts := List.mem_filter.mpr ⟨List.mem_of_getElem? h, hg⟩
def pg_MC : Nat := 601024
def pg_MS : Nat := 7293034
def pg_on : List String := ["LinkHouse", "LinkHouse$Filler", "LinkHouse$Layout", "LinkHouse$Link", "LinkHouse$Memory", "LinkHouse$Name", "LinkHouse$Names", "LinkHouse$ObjectFile", "LinkHouse$Part", "LinkHouse$Pool", "LinkHouse$Row", "LinkHouse$Scribe", "LinkHouseModel", "java/lang/IllegalArgumentException", "java/lang/IllegalStateException", "java/util/NoSuchElementException", "LinkHouseLaw", "java/util/Arrays", "java/lang/String", "java/lang/StringLatin1", "jdk/internal/util/Preconditions"]
def pg_cn (ci : Nat) : String := pg_on.getD ci ""
def pg_ty : List FieldType := [.byte, .int, .long, .boolean, .object "LinkHouse$ObjectFile", .object "LinkHouse$Name", .object "LinkHouse$Part"]
def pg_FL : List (List (String × String × String × Bool)) := [
  [("LinkHouse", "tape", "LLinkHouse$Row;", true), ("LinkHouse", "out", "LLinkHouse$Row;", false), ("LinkHouse", "draft", "LLinkHouse$Row;", false), ("LinkHouse", "store", "LLinkHouse$Row;", true), ("LinkHouse", "members", "[LLinkHouse$ObjectFile;", true), ("LinkHouse", "ends", "[I", true), ("LinkHouse", "files", "I", false), ("LinkHouse", "marks", "[I", true), ("LinkHouse", "given", "LLinkHouse$Names;", true), ("LinkHouse", "wished", "LLinkHouse$Names;", true), ("LinkHouse", "probe", "LLinkHouse$Name;", true), ("LinkHouse", "link", "LLinkHouse$Link;", true), ("LinkHouse", "pool", "LLinkHouse$Pool;", true), ("LinkHouse", "layout", "LLinkHouse$Layout;", true), ("LinkHouse", "filler", "LLinkHouse$Filler;", true), ("LinkHouse", "scribe", "LLinkHouse$Scribe;", true), ("LinkHouse", "memory", "LLinkHouse$Memory;", true), ("LinkHouse", "bootError", "I", false)],
  [("LinkHouse$Filler", "link", "LLinkHouse$Link;", true), ("LinkHouse$Filler", "layout", "LLinkHouse$Layout;", true), ("LinkHouse$Filler", "pool", "LLinkHouse$Pool;", true), ("LinkHouse$Filler", "store", "LLinkHouse$Row;", true), ("LinkHouse$Filler", "file", "LLinkHouse$Row;", true)],
  [("LinkHouse$Layout", "link", "LLinkHouse$Link;", true), ("LinkHouse$Layout", "pool", "LLinkHouse$Pool;", true), ("LinkHouse$Layout", "order", "[LLinkHouse$Part;", true), ("LinkHouse$Layout", "noPart", "LLinkHouse$Part;", true), ("LinkHouse$Layout", "there", "[Z", true), ("LinkHouse$Layout", "filePlace", "[J", true), ("LinkHouse$Layout", "base", "[J", true), ("LinkHouse$Layout", "fileBytes", "[J", true), ("LinkHouse$Layout", "memoryBytes", "[J", true), ("LinkHouse$Layout", "slots", "[I", true), ("LinkHouse$Layout", "localSlots", "[I", true), ("LinkHouse$Layout", "count", "I", false), ("LinkHouse$Layout", "slotCount", "I", false), ("LinkHouse$Layout", "slotPlace", "J", false), ("LinkHouse$Layout", "textEnd", "J", false), ("LinkHouse$Layout", "bssStart", "J", false), ("LinkHouse$Layout", "threadAlign", "J", false), ("LinkHouse$Layout", "tp", "J", false), ("LinkHouse$Layout", "fileSize", "J", false)],
  [("LinkHouse$Link", "members", "[LLinkHouse$ObjectFile;", true), ("LinkHouse$Link", "given", "LLinkHouse$Names;", true), ("LinkHouse$Link", "wished", "LLinkHouse$Names;", true), ("LinkHouse$Link", "names", "LLinkHouse$Names;", true), ("LinkHouse$Link", "parts", "[LLinkHouse$Part;", true), ("LinkHouse$Link", "noPart", "LLinkHouse$Part;", true), ("LinkHouse$Link", "objects", "[LLinkHouse$ObjectFile;", true), ("LinkHouse$Link", "noObject", "LLinkHouse$ObjectFile;", true), ("LinkHouse$Link", "symbolNames", "[LLinkHouse$Name;", true), ("LinkHouse$Link", "order", "[LLinkHouse$Name;", true), ("LinkHouse$Link", "queue", "[LLinkHouse$Part;", true), ("LinkHouse$Link", "probe", "LLinkHouse$Name;", true), ("LinkHouse$Link", "start", "LLinkHouse$Name;", true), ("LinkHouse$Link", "blamed", "LLinkHouse$Name;", false), ("LinkHouse$Link", "taken", "I", false), ("LinkHouse$Link", "ordered", "I", false), ("LinkHouse$Link", "queued", "I", false), ("LinkHouse$Link", "dropped", "I", false), ("LinkHouse$Link", "answer", "I", false), ("LinkHouse$Link", "overrun", "J", false)],
  [("LinkHouse$Memory", "bytes", "LLinkHouse$Row;", true), ("LinkHouse$Memory", "starts", "[J", true), ("LinkHouse$Memory", "sizes", "[J", true), ("LinkHouse$Memory", "fileSizes", "[J", true), ("LinkHouse$Memory", "places", "[I", true), ("LinkHouse$Memory", "flagBits", "[J", true), ("LinkHouse$Memory", "rows", "I", false), ("LinkHouse$Memory", "entry", "J", false), ("LinkHouse$Memory", "symbolPlace", "I", false), ("LinkHouse$Memory", "symbols", "I", false), ("LinkHouse$Memory", "namePlace", "I", false), ("LinkHouse$Memory", "nameSize", "I", false), ("LinkHouse$Memory", "named", "I", false)],
  [("LinkHouse$Name", "low", "J", false), ("LinkHouse$Name", "mid", "J", false), ("LinkHouse$Name", "high", "J", false), ("LinkHouse$Name", "length", "I", false), ("LinkHouse$Name", "strength", "I", false), ("LinkHouse$Name", "home", "I", false), ("LinkHouse$Name", "part", "LLinkHouse$Part;", false), ("LinkHouse$Name", "value", "J", false), ("LinkHouse$Name", "size", "J", false), ("LinkHouse$Name", "info", "I", false), ("LinkHouse$Name", "missed", "Z", false), ("LinkHouse$Name", "wished", "Z", false), ("LinkHouse$Name", "signature", "Z", false), ("LinkHouse$Name", "stays", "Z", false), ("LinkHouse$Name", "address", "J", false), ("LinkHouse$Name", "slot", "I", false), ("LinkHouse$Name", "threadSlot", "I", false), ("LinkHouse$Name", "number", "I", false)],
  [("LinkHouse$Names", "names", "[LLinkHouse$Name;", true), ("LinkHouse$Names", "none", "LLinkHouse$Name;", true), ("LinkHouse$Names", "count", "I", false)],
  [("LinkHouse$ObjectFile", "store", "LLinkHouse$Row;", true), ("LinkHouse$ObjectFile", "file", "I", true), ("LinkHouse$ObjectFile", "member", "I", true), ("LinkHouse$ObjectFile", "groups", "[B", true), ("LinkHouse$ObjectFile", "kind", "I", false), ("LinkHouse$ObjectFile", "base", "I", false), ("LinkHouse$ObjectFile", "size", "I", false), ("LinkHouse$ObjectFile", "rows", "I", false), ("LinkHouse$ObjectFile", "sections", "I", false), ("LinkHouse$ObjectFile", "symbolsAt", "I", false), ("LinkHouse$ObjectFile", "symbolPlace", "I", false), ("LinkHouse$ObjectFile", "symbols", "I", false), ("LinkHouse$ObjectFile", "namePlace", "I", false), ("LinkHouse$ObjectFile", "nameSize", "I", false), ("LinkHouse$ObjectFile", "stringsBits", "I", false), ("LinkHouse$ObjectFile", "taken", "Z", false), ("LinkHouse$ObjectFile", "cause", "I", false)],
  [("LinkHouse$Part", "object", "I", false), ("LinkHouse$Part", "file", "I", false), ("LinkHouse$Part", "member", "I", false), ("LinkHouse$Part", "number", "I", false), ("LinkHouse$Part", "group", "I", false), ("LinkHouse$Part", "size", "I", false), ("LinkHouse$Part", "align", "I", false), ("LinkHouse$Part", "start", "I", false), ("LinkHouse$Part", "state", "I", false), ("LinkHouse$Part", "stays", "Z", false), ("LinkHouse$Part", "strings", "Z", false), ("LinkHouse$Part", "address", "J", false), ("LinkHouse$Part", "fresh", "I", false)],
  [("LinkHouse$Pool", "store", "LLinkHouse$Row;", true), ("LinkHouse$Pool", "starts", "[I", true), ("LinkHouse$Pool", "lengths", "[I", true), ("LinkHouse$Pool", "count", "I", false), ("LinkHouse$Pool", "size", "I", false), ("LinkHouse$Pool", "address", "J", false)],
  [("LinkHouse$Row", "bytes", "[B", true), ("LinkHouse$Row", "size", "I", false), ("LinkHouse$Row", "over", "Z", false)],
  [("LinkHouse$Scribe", "link", "LLinkHouse$Link;", true), ("LinkHouse$Scribe", "layout", "LLinkHouse$Layout;", true), ("LinkHouse$Scribe", "store", "LLinkHouse$Row;", true), ("LinkHouse$Scribe", "rows", "LLinkHouse$Row;", true), ("LinkHouse$Scribe", "locals", "[I", true), ("LinkHouse$Scribe", "listed", "[LLinkHouse$Name;", true), ("LinkHouse$Scribe", "listedCount", "I", false), ("LinkHouse$Scribe", "localCount", "I", false), ("LinkHouse$Scribe", "symbolsSection", "I", false)],
  [("LinkHouseModel", "thrown", "I", false), ("LinkHouseModel", "tape", "[B", true), ("LinkHouseModel", "tapeSize", "I", false), ("LinkHouseModel", "out", "[B", true), ("LinkHouseModel", "outSize", "I", false), ("LinkHouseModel", "files", "I", false), ("LinkHouseModel", "bytes", "[B", true), ("LinkHouseModel", "fileSize", "[I", true), ("LinkHouseModel", "memberCount", "[I", true), ("LinkHouseModel", "memberAt", "[I", true), ("LinkHouseModel", "memberSize", "[I", true), ("LinkHouseModel", "isArchive", "[Z", true), ("LinkHouseModel", "isSkipped", "[Z", true), ("LinkHouseModel", "answer", "I", false), ("LinkHouseModel", "takenMany", "I", false), ("LinkHouseModel", "segments", "I", false), ("LinkHouseModel", "ranOver", "J", false), ("LinkHouseModel", "taken", "[I", true), ("LinkHouseModel", "isTaken", "[Z", true), ("LinkHouseModel", "wasThere", "[Z", true), ("LinkHouseModel", "names", "I", false), ("LinkHouseModel", "nameText", "[B", true), ("LinkHouseModel", "nameLength", "[I", true), ("LinkHouseModel", "strength", "[I", true), ("LinkHouseModel", "byObject", "[I", true), ("LinkHouseModel", "bySymbol", "[I", true), ("LinkHouseModel", "commonSize", "[I", true), ("LinkHouseModel", "commonValue", "[I", true), ("LinkHouseModel", "isWanted", "[Z", true), ("LinkHouseModel", "nameAddress", "[J", true), ("LinkHouseModel", "nameGiven", "[J", true), ("LinkHouseModel", "givenMany", "I", false), ("LinkHouseModel", "wishedMany", "I", false), ("LinkHouseModel", "givenText", "[B", true), ("LinkHouseModel", "wishedText", "[B", true), ("LinkHouseModel", "givenLength", "[I", true), ("LinkHouseModel", "wishedLength", "[I", true), ("LinkHouseModel", "givenValue", "[J", true), ("LinkHouseModel", "nameInfo", "[I", true), ("LinkHouseModel", "nameSegment", "[I", true), ("LinkHouseModel", "causeName", "[I", true), ("LinkHouseModel", "nameSize", "[J", true), ("LinkHouseModel", "linked", "[B", true), ("LinkHouseModel", "linkedSize", "I", false), ("LinkHouseModel", "memoryNames", "I", false), ("LinkHouseModel", "memoryAt", "[I", true), ("LinkHouseModel", "memoryLength", "[I", true), ("LinkHouseModel", "memoryValue", "[J", true), ("LinkHouseModel", "defined", "I", false), ("LinkHouseModel", "definedName", "[I", true), ("LinkHouseModel", "laid", "I", false), ("LinkHouseModel", "laidObject", "[I", true), ("LinkHouseModel", "laidFile", "[I", true), ("LinkHouseModel", "laidMember", "[I", true), ("LinkHouseModel", "laidNumber", "[I", true), ("LinkHouseModel", "laidGroup", "[I", true), ("LinkHouseModel", "laidSize", "[I", true), ("LinkHouseModel", "laidAddress", "[J", true), ("LinkHouseModel", "sectionAddress", "[J", true), ("LinkHouseModel", "isThere", "[Z", true), ("LinkHouseModel", "filePlace", "[J", true), ("LinkHouseModel", "segmentAddress", "[J", true), ("LinkHouseModel", "fileBytes", "[J", true), ("LinkHouseModel", "memoryBytes", "[J", true), ("LinkHouseModel", "fileEnd", "J", false), ("LinkHouseModel", "dropped", "[Z", true), ("LinkHouseModel", "reachedSection", "[Z", true), ("LinkHouseModel", "reachedName", "[Z", true), ("LinkHouseModel", "onlyReached", "Z", false), ("LinkHouseModel", "droppedMany", "I", false), ("LinkHouseModel", "signs", "I", false), ("LinkHouseModel", "signAt", "[I", true), ("LinkHouseModel", "signEnd", "[I", true), ("LinkHouseModel", "ownKind", "[I", true), ("LinkHouseModel", "slots", "I", false), ("LinkHouseModel", "slotName", "[I", true), ("LinkHouseModel", "slotObject", "[I", true), ("LinkHouseModel", "slotSymbol", "[I", true), ("LinkHouseModel", "slotThread", "[Z", true), ("LinkHouseModel", "slotPlace", "J", false), ("LinkHouseModel", "textEnd", "J", false), ("LinkHouseModel", "bssPlace", "J", false), ("LinkHouseModel", "hasTemplate", "Z", false), ("LinkHouseModel", "templateBegin", "J", false), ("LinkHouseModel", "templateFile", "J", false), ("LinkHouseModel", "templateMemory", "J", false), ("LinkHouseModel", "templateAlign", "J", false), ("LinkHouseModel", "threadPoint", "J", false), ("LinkHouseModel", "poolSize", "I", false), ("LinkHouseModel", "nodes", "I", false), ("LinkHouseModel", "poolPlace", "J", false), ("LinkHouseModel", "pool", "[B", true), ("LinkHouseModel", "child", "[I", true), ("LinkHouseModel", "sibling", "[I", true), ("LinkHouseModel", "poolEnd", "[I", true), ("LinkHouseModel", "letter", "[B", true), ("LinkHouseModel", "inGroup", "[Z", true), ("LinkHouseModel", "ownText", "[B", true), ("LinkHouseModel", "changed", "Z", false), ("LinkHouseModel", "tried", "[B", true), ("LinkHouseModel", "image", "[B", true), ("LinkHouseModel", "triedSize", "I", false), ("LinkHouseModel", "loaded", "I", false), ("LinkHouseModel", "bootError", "I", false), ("LinkHouseModel", "entry", "J", false), ("LinkHouseModel", "rowFlags", "[J", true), ("LinkHouseModel", "rowPlace", "[J", true), ("LinkHouseModel", "rowAddress", "[J", true), ("LinkHouseModel", "rowFile", "[J", true), ("LinkHouseModel", "rowMemory", "[J", true), ("LinkHouseModel", "newFlags", "[J", true), ("LinkHouseModel", "newPlace", "[J", true), ("LinkHouseModel", "newAddress", "[J", true), ("LinkHouseModel", "newFile", "[J", true), ("LinkHouseModel", "newMemory", "[J", true), ("LinkHouseModel", "newRows", "I", false), ("LinkHouseModel", "startText", "[B", true), ("LinkHouseModel", "newSection", "[I", true), ("LinkHouseModel", "newSymbol", "[I", true), ("LinkHouseModel", "newName", "[I", true), ("LinkHouseModel", "partObject", "[I", true), ("LinkHouseModel", "partNumber", "[I", true), ("LinkHouseModel", "nameAtPlace", "[I", true), ("LinkHouseModel", "parts", "I", false), ("LinkHouseModel", "firstName", "I", false), ("LinkHouseModel", "allSymbols", "I", false), ("LinkHouseModel", "isFull", "Z", false), ("LinkHouseModel", "objects", "I", false), ("LinkHouseModel", "objectAt", "[I", true), ("LinkHouseModel", "objectSize", "[I", true)],
  [],
  [],
  []]
def pg_T (ci : Nat) : u_T := fun k => (pg_FL.getD ci []).getD k ("", "", "", false)
def pg_nfl : List Nat := [18, 5, 19, 20, 13, 18, 3, 17, 13, 6, 3, 9, 130, 0, 0, 0]
def pg_nf (ci : Nat) : Nat := pg_nfl.getD ci 0
def pg_cl : List vw_C := (List.range 16).map (fun ci => (pg_cn ci, pg_T ci, pg_nf ci))
def pg_ftl : List (List FieldType) := [
  [(.object "LinkHouse$Row"), (.object "LinkHouse$Row"), (.object "LinkHouse$Row"), (.object "LinkHouse$Row"), (.array (.object "LinkHouse$ObjectFile")), (.array .int), .int, (.array .int), (.object "LinkHouse$Names"), (.object "LinkHouse$Names"), (.object "LinkHouse$Name"), (.object "LinkHouse$Link"), (.object "LinkHouse$Pool"), (.object "LinkHouse$Layout"), (.object "LinkHouse$Filler"), (.object "LinkHouse$Scribe"), (.object "LinkHouse$Memory"), .int],
  [(.object "LinkHouse$Link"), (.object "LinkHouse$Layout"), (.object "LinkHouse$Pool"), (.object "LinkHouse$Row"), (.object "LinkHouse$Row")],
  [(.object "LinkHouse$Link"), (.object "LinkHouse$Pool"), (.array (.object "LinkHouse$Part")), (.object "LinkHouse$Part"), (.array .boolean), (.array .long), (.array .long), (.array .long), (.array .long), (.array .int), (.array .int), .int, .int, .long, .long, .long, .long, .long, .long],
  [(.array (.object "LinkHouse$ObjectFile")), (.object "LinkHouse$Names"), (.object "LinkHouse$Names"), (.object "LinkHouse$Names"), (.array (.object "LinkHouse$Part")), (.object "LinkHouse$Part"), (.array (.object "LinkHouse$ObjectFile")), (.object "LinkHouse$ObjectFile"), (.array (.object "LinkHouse$Name")), (.array (.object "LinkHouse$Name")), (.array (.object "LinkHouse$Part")), (.object "LinkHouse$Name"), (.object "LinkHouse$Name"), (.object "LinkHouse$Name"), .int, .int, .int, .int, .int, .long],
  [(.object "LinkHouse$Row"), (.array .long), (.array .long), (.array .long), (.array .int), (.array .long), .int, .long, .int, .int, .int, .int, .int],
  [.long, .long, .long, .int, .int, .int, (.object "LinkHouse$Part"), .long, .long, .int, .boolean, .boolean, .boolean, .boolean, .long, .int, .int, .int],
  [(.array (.object "LinkHouse$Name")), (.object "LinkHouse$Name"), .int],
  [(.object "LinkHouse$Row"), .int, .int, (.array .byte), .int, .int, .int, .int, .int, .int, .int, .int, .int, .int, .int, .boolean, .int],
  [.int, .int, .int, .int, .int, .int, .int, .int, .int, .boolean, .boolean, .long, .int],
  [(.object "LinkHouse$Row"), (.array .int), (.array .int), .int, .int, .long],
  [(.array .byte), .int, .boolean],
  [(.object "LinkHouse$Link"), (.object "LinkHouse$Layout"), (.object "LinkHouse$Row"), (.object "LinkHouse$Row"), (.array .int), (.array (.object "LinkHouse$Name")), .int, .int, .int],
  [.int, (.array .byte), .int, (.array .byte), .int, .int, (.array .byte), (.array .int), (.array .int), (.array .int), (.array .int), (.array .boolean), (.array .boolean), .int, .int, .int, .long, (.array .int), (.array .boolean), (.array .boolean), .int, (.array .byte), (.array .int), (.array .int), (.array .int), (.array .int), (.array .int), (.array .int), (.array .boolean), (.array .long), (.array .long), .int, .int, (.array .byte), (.array .byte), (.array .int), (.array .int), (.array .long), (.array .int), (.array .int), (.array .int), (.array .long), (.array .byte), .int, .int, (.array .int), (.array .int), (.array .long), .int, (.array .int), .int, (.array .int), (.array .int), (.array .int), (.array .int), (.array .int), (.array .int), (.array .long), (.array .long), (.array .boolean), (.array .long), (.array .long), (.array .long), (.array .long), .long, (.array .boolean), (.array .boolean), (.array .boolean), .boolean, .int, .int, (.array .int), (.array .int), (.array .int), .int, (.array .int), (.array .int), (.array .int), (.array .boolean), .long, .long, .long, .boolean, .long, .long, .long, .long, .long, .int, .int, .long, (.array .byte), (.array .int), (.array .int), (.array .int), (.array .byte), (.array .boolean), (.array .byte), .boolean, (.array .byte), (.array .byte), .int, .int, .int, .long, (.array .long), (.array .long), (.array .long), (.array .long), (.array .long), (.array .long), (.array .long), (.array .long), (.array .long), (.array .long), .int, (.array .byte), (.array .int), (.array .int), (.array .int), (.array .int), (.array .int), (.array .int), .int, .int, .int, .boolean, .int, (.array .int), (.array .int)],
  [],
  [],
  []]
def pg_ftp (ci k : Nat) : FieldType := (pg_ftl.getD ci []).getD k .int
def pg_inl : List Nat := [18, 5, 19, 20, 13, 18, 3, 17, 13, 6, 3, 9, 130, 6, 6, 6]
def pg_in (ci : Nat) : Nat := pg_inl.getD ci 0
def pg_nc : Nat := 7
def pg_sf : List (String × String × String × Nat) := [("LinkHouse", "ARCHIVE", "[B", 1), ("LinkHouse", "SEGMENT_FLAGS", "[I", 2), ("LinkHouse", "ELF", "[B", 3), ("LinkHouse", "LAYOUT_ORDER", "[I", 4), ("LinkHouse", "SEGMENT_OF", "[I", 5), ("LinkHouse", "ROW_FLAGS", "[I", 6)]
def pg_ki : List Int32 := [65536, 65522, 65521, 32769, 1000000000, 81920, 65540]
def pg_kl : List Int64 := [18, 2, 4, 9, 11, 22, 23, 41, 42, -1, -9223372036854775808, 2656, 10, 48, 4096, 16, 62, 64, 56, 139, 141, 21, 59495, 233, 144, 8, 4194304, 4095, 65536, 17, 24, -4, 140737488355328, 3, 16384, 1024, 1536, 47, 111, 32, 46, 738142165265366049, 282584257676671, -2147483648, 2147483647, 5, 6, 7, 65521, 15, 4294967295]
def pg_nsx : List Nat := [162, 272, 284, 364, 545, 1386, 1516, 1611, 1726, 1779, 1896, 1910, 1950, 1020, 1370, 1441, 1468, 1666, 1691, 1767, 1885, 2024]
def pg_Ns : List Cond := pg_nsx.filterMap (fun i => tables_1[i]?)
def pg_isN : Cond → Bool
  | .fieldLinkNest .. => true
  | .methodLinkNest .. => true
  | _ => false
theorem pg_nsb : pg_Ns.all pg_isN = true := by decide +kernel
theorem pg_nsf (w : Cond) (h : w ∈ pg_Ns) : (∃ a i b n d q, w = .fieldLinkNest a i b n d q) ∨ ∃ a i x q, w = .methodLinkNest a i x q := by
  have h1 := List.all_eq_true.mp pg_nsb w h
  cases w <;> first | (simp [pg_isN] at h1; done) | exact Or.inl ⟨_, _, _, _, _, _, rfl⟩ | exact Or.inr ⟨_, _, _, _, rfl⟩
def pg_Ao : List String := ["LinkHouse$ObjectFile", "LinkHouse$Name", "LinkHouse$Part"]
def pg_lix : List (List Nat) := [
  [759, 761, 763, 765, 767, 769, 771, 773, 775, 777, 779, 781, 783, 785, 787, 789, 791, 793],
  [640, 642, 644, 646, 648],
  [584, 586, 588, 590, 592, 594, 596, 598, 600, 602, 604, 606, 608, 610, 612, 614, 616, 618, 620],
  [464, 466, 468, 470, 472, 474, 476, 478, 480, 482, 484, 486, 488, 490, 492, 494, 496, 498, 500, 502],
  [714, 716, 718, 720, 722, 724, 726, 728, 730, 732, 734, 736, 738],
  [218, 220, 222, 224, 226, 228, 230, 232, 234, 236, 238, 240, 242, 244, 246, 248, 250, 252],
  [264, 266, 268],
  [117, 119, 121, 123, 125, 127, 129, 131, 133, 135, 137, 139, 141, 143, 145, 147, 149],
  [334, 336, 338, 340, 342, 344, 346, 348, 350, 352, 354, 356, 358],
  [525, 527, 529, 531, 533, 535],
  [61, 63, 65],
  [669, 671, 673, 675, 677, 679, 681, 683, 685],
  [2304, 2306, 2308, 2310, 2312, 2314, 2316, 2318, 2320, 2322, 2324, 2326, 2328, 2330, 2332, 2334, 2336, 2338, 2340, 2342, 2344, 2346, 2348, 2350, 2352, 2354, 2356, 2358, 2360, 2362, 2364, 2366, 2368, 2370, 2372, 2374, 2376, 2378, 2380, 2382, 2384, 2386, 2388, 2390, 2392, 2394, 2396, 2398, 2400, 2402, 2404, 2406, 2408, 2410, 2412, 2414, 2416, 2418, 2420, 2422, 2424, 2426, 2428, 2430, 2432, 2434, 2436, 2438, 2440, 2442, 2444, 2446, 2448, 2450, 2452, 2454, 2456, 2458, 2460, 2462, 2464, 2466, 2468, 2470, 2472, 2474, 2476, 2478, 2480, 2482, 2484, 2486, 2488, 2490, 2492, 2494, 2496, 2498, 2500, 2502, 2504, 2506, 2508, 2510, 2512, 2514, 2516, 2518, 2520, 2522, 2524, 2526, 2528, 2530, 2532, 2534, 2536, 2538, 2540, 2542, 2544, 2546, 2548, 2550, 2552, 2554, 2556, 2558, 2560, 2562],
  [],
  [],
  []]
def pg_iix : List Nat := [32, 626, 539, 274, 689, 161, 153, 72, 283, 506, 40, 652, 2166, 1050, 1830, 2045]
def pg_jix : List Nat := [1, 15, 14, 7, 17, 6, 5, 4, 8, 13, 2, 16, 18, 22, 23, 30]
def pg_clck (ci : Nat) : Bool :=
  (List.range (pg_nf ci)).all (fun k => decide (parseFieldDescriptor (pg_T ci k).2.2.1 = some (pg_ftp ci k)) && (List.range (pg_nf ci)).all (fun j => decide (k = j) || decide ((pg_T ci k).2.1 ≠ (pg_T ci j).2.1)) && decide (tables_1[(pg_lix.getD ci []).getD k 0]? = some (u_lay (pg_cn ci) (pg_T ci) k)) && goodWord (u_lay (pg_cn ci) (pg_T ci) k)) &&
  (decide (tables_1[pg_iix.getD ci 0]? = some (Cond.instantiable (pg_cn ci) (pg_in ci))) && (goodWord (Cond.instantiable (pg_cn ci) (pg_in ci)) && (decide (tables_1[pg_jix.getD ci 0]? = some (Cond.initialized (pg_cn ci))) && goodWord (Cond.initialized (pg_cn ci)))))
theorem pg_clck_0 : pg_clck 0 = true := by decide +kernel
theorem pg_clck_1 : pg_clck 1 = true := by decide +kernel
theorem pg_clck_2 : pg_clck 2 = true := by decide +kernel
theorem pg_clck_3 : pg_clck 3 = true := by decide +kernel
theorem pg_clck_4 : pg_clck 4 = true := by decide +kernel
theorem pg_clck_5 : pg_clck 5 = true := by decide +kernel
theorem pg_clck_6 : pg_clck 6 = true := by decide +kernel
theorem pg_clck_7 : pg_clck 7 = true := by decide +kernel
theorem pg_clck_8 : pg_clck 8 = true := by decide +kernel
theorem pg_clck_9 : pg_clck 9 = true := by decide +kernel
theorem pg_clck_10 : pg_clck 10 = true := by decide +kernel
theorem pg_clck_11 : pg_clck 11 = true := by decide +kernel
theorem pg_clck_12 : pg_clck 12 = true := by decide +kernel
theorem pg_clck_13 : pg_clck 13 = true := by decide +kernel
theorem pg_clck_14 : pg_clck 14 = true := by decide +kernel
theorem pg_clck_15 : pg_clck 15 = true := by decide +kernel
theorem pg_clok : ∀ ci, ci < 16 → pg_clck ci = true := by
  have h : ∀ ci ∈ [0, 1, 2, 3, 4, 5, 6, 7, 8, 9, 10, 11, 12, 13, 14, 15], pg_clck ci = true := by
    simp only [List.forall_mem_cons]
    exact ⟨pg_clck_0, pg_clck_1, pg_clck_2, pg_clck_3, pg_clck_4, pg_clck_5, pg_clck_6, pg_clck_7, pg_clck_8, pg_clck_9, pg_clck_10, pg_clck_11, pg_clck_12, pg_clck_13, pg_clck_14, pg_clck_15, fun _ h => absurd h List.not_mem_nil⟩
  exact fun ci hc => h ci (by have := List.mem_range.mpr hc; exact this)
theorem pg_cla {ci : Nat} {C : String} {T : u_T} {N : Nat} (h : pg_cl[ci]? = some (C, T, N)) : ci < 16 ∧ C = pg_cn ci ∧ T = pg_T ci ∧ N = pg_nf ci := by
  have hlt : ci < 16 := by
    have := (List.getElem?_eq_some_iff.mp h).1
    simpa [pg_cl] using this
  simp only [pg_cl, List.getElem?_map, List.getElem?_range hlt, Option.map_some, Option.some.injEq, Prod.mk.injEq] at h
  exact ⟨hlt, h.1.symm, h.2.1.symm, h.2.2.symm⟩
theorem pg_clb {ci : Nat} (h : ci < 16) : pg_cl[ci]? = some (pg_cn ci, pg_T ci, pg_nf ci) := by
  simp only [pg_cl, List.getElem?_map, List.getElem?_range h, Option.map_some]
theorem pg_cls {ci : Nat} {C : String} {T : u_T} {N : Nat} (h : pg_cl[ci]? = some (C, T, N)) : (∀ k, k < N → parseFieldDescriptor (T k).2.2.1 = some (pg_ftp ci k)) ∧ ∀ a, a < N → ∀ b, b < N → a ≠ b → (T a).2.1 ≠ (T b).2.1 := by
  obtain ⟨hlt, rfl, rfl, rfl⟩ := pg_cla h
  have h1 := pg_clok ci hlt
  simp only [pg_clck, Bool.and_eq_true, List.all_eq_true, List.mem_range, decide_eq_true_eq, Bool.or_eq_true] at h1
  exact ⟨fun k hk => (h1.1 k hk).1.1.1, fun a ha b hb hne => ((h1.1 a ha).1.1.2 b hb).resolve_left hne⟩
theorem pg_cin {ci : Nat} {C : String} {T : u_T} {N : Nat} (h : pg_cl[ci]? = some (C, T, N)) : ∀ w ∈ u_ws C T N, w ∈ pg_Ts := by
  obtain ⟨hlt, rfl, rfl, rfl⟩ := pg_cla h
  have h1 := pg_clok ci hlt
  simp only [pg_clck, Bool.and_eq_true, List.all_eq_true, List.mem_range, decide_eq_true_eq, Bool.or_eq_true] at h1
  intro w hw
  obtain ⟨k, hk, rfl⟩ := List.mem_map.mp hw
  have h2 := h1.1 k (List.mem_range.mp hk)
  exact pg_at h2.1.2 h2.2
theorem pg_cii {ci : Nat} (hlt : ci < 16) : Cond.instantiable (pg_cn ci) (pg_in ci) ∈ pg_Ts ∧ Cond.initialized (pg_cn ci) ∈ pg_Ts := by
  have h1 := pg_clok ci hlt
  simp only [pg_clck, Bool.and_eq_true, decide_eq_true_eq] at h1
  exact ⟨pg_at h1.2.1 h1.2.2.1, pg_at h1.2.2.2.1 h1.2.2.2.2⟩
end
section
/-! methods: names, code, links -/
def pg_mn0 : List (MethodName × ByteArray × Nat × Option FieldType × Nat × Nat) := [
  (⟨"LinkHouse", "<init>", "()V"⟩, prog_1_method_1_code, 2, none, 0, 0),
  (⟨"LinkHouse", "link", "(Z)I"⟩, prog_1_method_5_code, 2, (some .int), 1, 0),
  (⟨"LinkHouse", "runLink", "(Z)I"⟩, prog_1_method_27_code, 3, (some .int), 1, 0),
  (⟨"LinkHouse", "up", "(JJ)J"⟩, prog_1_method_37_code, 4, (some .long), 2, 0),
  (⟨"LinkHouse", "siteWidth", "(J)I"⟩, prog_1_method_39_code, 2, (some .int), 1, 0),
  (⟨"LinkHouse", "merge", "()I"⟩, prog_1_method_6_code, 2, (some .int), 0, 0),
  (⟨"LinkHouse", "publishDraft", "()I"⟩, prog_1_method_28_code, 2, (some .int), 0, 0),
  (⟨"LinkHouse", "forget", "()V"⟩, prog_1_method_9_code, 1, none, 0, 0),
  (⟨"LinkHouse", "pack", "()I"⟩, prog_1_method_10_code, 1, (some .int), 0, 0),
  (⟨"LinkHouse", "near", "(J)J"⟩, prog_1_method_12_code, 4, (some .long), 1, 0),
  (⟨"LinkHouse", "above", "(JJ)Z"⟩, prog_1_method_36_code, 4, (some .boolean), 2, 0),
  (⟨"LinkHouse", "boot", "(Z)I"⟩, prog_1_method_21_code, 3, (some .int), 1, 0),
  (⟨"LinkHouse", "peek", "(J)I"⟩, prog_1_method_22_code, 3, (some .int), 1, 0),
  (⟨"LinkHouse", "flags", "(J)J"⟩, prog_1_method_23_code, 3, (some .long), 1, 0),
  (⟨"LinkHouse", "feed", "(IJ)I"⟩, prog_1_method_2_code, 4, (some .int), 2, 0),
  (⟨"LinkHouse", "add", "()I"⟩, prog_1_method_3_code, 2, (some .int), 0, 0)]
def pg_mn1 : List (MethodName × ByteArray × Nat × Option FieldType × Nat × Nat) := [
  (⟨"LinkHouse", "readFile", "(I)I"⟩, prog_1_method_33_code, 3, (some .int), 1, 0),
  (⟨"LinkHouse", "readArchive", "(II)I"⟩, prog_1_method_34_code, 7, (some .int), 2, 0),
  (⟨"LinkHouse", "memberSize", "(I)I"⟩, prog_1_method_35_code, 7, (some .int), 1, 0),
  (⟨"LinkHouse", "isPower", "(J)Z"⟩, prog_1_method_38_code, 2, (some .boolean), 1, 0),
  (⟨"LinkHouse", "clearFile", "(I)V"⟩, prog_1_method_32_code, 3, none, 1, 0),
  (⟨"LinkHouse", "drop", "()I"⟩, prog_1_method_4_code, 1, (some .int), 0, 0),
  (⟨"LinkHouse", "give", "(J)I"⟩, prog_1_method_7_code, 4, (some .int), 1, 0),
  (⟨"LinkHouse", "readTapeName", "()Z"⟩, prog_1_method_29_code, 4, (some .boolean), 0, 0),
  (⟨"LinkHouse", "wish", "()I"⟩, prog_1_method_8_code, 2, (some .int), 0, 0),
  (⟨"LinkHouse", "named", "()I"⟩, prog_1_method_11_code, 1, (some .int), 0, 0),
  (⟨"LinkHouse", "list", "(II)I"⟩, prog_1_method_13_code, 4, (some .int), 2, 0),
  (⟨"LinkHouse", "objectAt", "(II)LLinkHouse$ObjectFile;"⟩, prog_1_method_31_code, 4, (some (.object "LinkHouse$ObjectFile")), 2, 0),
  (⟨"LinkHouse", "memberAt", "(II)LLinkHouse$ObjectFile;"⟩, prog_1_method_30_code, 4, (some (.object "LinkHouse$ObjectFile")), 2, 0),
  (⟨"LinkHouse", "sum", "(III)J"⟩, prog_1_method_14_code, 8, (some .long), 3, 0),
  (⟨"LinkHouse", "map", "()I"⟩, prog_1_method_15_code, 1, (some .int), 0, 0),
  (⟨"LinkHouse", "address", "()J"⟩, prog_1_method_16_code, 2, (some .long), 0, 0)]
def pg_mn2 : List (MethodName × ByteArray × Nat × Option FieldType × Nat × Nat) := [
  (⟨"LinkHouse", "taken", "(II)Z"⟩, prog_1_method_17_code, 4, (some .boolean), 2, 0),
  (⟨"LinkHouse", "cause", "(II)I"⟩, prog_1_method_18_code, 4, (some .int), 2, 0),
  (⟨"LinkHouse", "section", "(II)I"⟩, prog_1_method_19_code, 4, (some .int), 2, 0),
  (⟨"LinkHouse", "place", "(I)J"⟩, prog_1_method_20_code, 2, (some .long), 1, 0),
  (⟨"LinkHouse", "out", "(I)J"⟩, prog_1_method_24_code, 2, (some .long), 1, 0),
  (⟨"LinkHouse", "look", "(I)J"⟩, prog_1_method_25_code, 2, (some .long), 1, 0),
  (⟨"LinkHouse", "lookAtLink", "(I)J"⟩, prog_1_method_26_code, 4, (some .long), 1, 0),
  (⟨"LinkHouse$Filler", "<init>", "(LLinkHouse$Link;LLinkHouse$Layout;LLinkHouse$Pool;LLinkHouse$Row;)V"⟩, prog_2_method_1_code, 5, none, 4, 1),
  (⟨"LinkHouse$Filler", "write", "()V"⟩, prog_2_method_2_code, 3, none, 0, 1),
  (⟨"LinkHouse$Filler", "writeHead", "()V"⟩, prog_2_method_3_code, 2, none, 0, 1),
  (⟨"LinkHouse$Filler", "writeRow", "(IIIJ)V"⟩, prog_2_method_4_code, 6, none, 4, 1),
  (⟨"LinkHouse$Filler", "spotOf", "(LLinkHouse$Part;)I"⟩, prog_2_method_5_code, 3, (some .int), 1, 1),
  (⟨"LinkHouse$Filler", "fillSites", "()Z"⟩, prog_2_method_6_code, 8, (some .boolean), 0, 1),
  (⟨"LinkHouse$Filler", "fillSite", "(IILLinkHouse$Part;)Z"⟩, prog_2_method_7_code, 15, (some .boolean), 3, 1),
  (⟨"LinkHouse$Filler", "fillShort", "(IILLinkHouse$Part;)Z"⟩, prog_2_method_10_code, 12, (some .boolean), 3, 1),
  (⟨"LinkHouse$Filler", "slotAddress", "(IIZ)J"⟩, prog_2_method_8_code, 4, (some .long), 3, 1)]
def pg_mn3 : List (MethodName × ByteArray × Nat × Option FieldType × Nat × Nat) := [
  (⟨"LinkHouse$Filler", "sumFor", "(IIIJ)J"⟩, prog_2_method_9_code, 9, (some .long), 4, 1),
  (⟨"LinkHouse$Layout", "<init>", "(LLinkHouse$Link;LLinkHouse$Pool;)V"⟩, prog_3_method_1_code, 3, none, 2, 2),
  (⟨"LinkHouse$Layout", "lay", "()V"⟩, prog_3_method_6_code, 3, none, 0, 2),
  (⟨"LinkHouse$Layout", "gather", "()V"⟩, prog_3_method_7_code, 4, none, 0, 2),
  (⟨"LinkHouse$Layout", "findSlots", "()V"⟩, prog_3_method_8_code, 8, none, 0, 2),
  (⟨"LinkHouse$Layout", "findSlot", "(IILLinkHouse$Part;)V"⟩, prog_3_method_9_code, 11, none, 3, 2),
  (⟨"LinkHouse$Layout", "slotOf", "(IIZ)I"⟩, prog_3_method_11_code, 5, (some .int), 3, 2),
  (⟨"LinkHouse$Layout", "slotKey", "(IIZ)I"⟩, prog_3_method_10_code, 5, (some .int), 3, 2),
  (⟨"LinkHouse$Layout", "findSegments", "()V"⟩, prog_3_method_13_code, 3, none, 0, 2),
  (⟨"LinkHouse$Layout", "partAt", "(I)LLinkHouse$Part;"⟩, prog_3_method_2_code, 3, (some (.object "LinkHouse$Part")), 1, 2),
  (⟨"LinkHouse$Layout", "segmentOf", "(LLinkHouse$Part;)I"⟩, prog_3_method_3_code, 2, (some .int), 1, 2),
  (⟨"LinkHouse$Layout", "isLaidCommon", "(LLinkHouse$Name;)Z"⟩, prog_3_method_14_code, 1, (some .boolean), 1, 2),
  (⟨"LinkHouse$Layout", "layText", "()V"⟩, prog_3_method_15_code, 8, none, 0, 2),
  (⟨"LinkHouse$Layout", "countSegments", "()I"⟩, prog_3_method_4_code, 3, (some .int), 0, 2),
  (⟨"LinkHouse$Layout", "layData", "()V"⟩, prog_3_method_16_code, 6, none, 0, 2),
  (⟨"LinkHouse$Layout", "layGroup", "(IJ)J"⟩, prog_3_method_19_code, 8, (some .long), 2, 2)]
def pg_mn4 : List (MethodName × ByteArray × Nat × Option FieldType × Nat × Nat) := [
  (⟨"LinkHouse$Layout", "layTemplate", "(JJ)V"⟩, prog_3_method_17_code, 9, none, 2, 2),
  (⟨"LinkHouse$Layout", "firstOf", "(I)LLinkHouse$Part;"⟩, prog_3_method_18_code, 3, (some (.object "LinkHouse$Part")), 1, 2),
  (⟨"LinkHouse$Layout", "addressOf", "(LLinkHouse$Name;)J"⟩, prog_3_method_20_code, 2, (some .long), 1, 2),
  (⟨"LinkHouse$Layout", "ownAddress", "(I)J"⟩, prog_3_method_21_code, 2, (some .long), 1, 2),
  (⟨"LinkHouse$Layout", "isTooLarge", "()Z"⟩, prog_3_method_5_code, 2, (some .boolean), 0, 2),
  (⟨"LinkHouse$Layout", "slotValue", "(I)J"⟩, prog_3_method_12_code, 6, (some .long), 1, 2),
  (⟨"LinkHouse$Layout", "symbolAddress", "(II)J"⟩, prog_3_method_22_code, 8, (some .long), 2, 2),
  (⟨"LinkHouse$Link", "<init>", "([LLinkHouse$ObjectFile;LLinkHouse$Names;LLinkHouse$Names;LLinkHouse$Row;)V"⟩, prog_4_method_1_code, 6, none, 4, 3),
  (⟨"LinkHouse$Link", "resolve", "(Z)I"⟩, prog_4_method_9_code, 5, (some .int), 1, 3),
  (⟨"LinkHouse$Link", "begin", "()V"⟩, prog_4_method_10_code, 3, none, 0, 3),
  (⟨"LinkHouse$Link", "define", "(LLinkHouse$Name;IILLinkHouse$Part;JJI)V"⟩, prog_4_method_21_code, 10, none, 7, 3),
  (⟨"LinkHouse$Link", "takeObject", "(LLinkHouse$ObjectFile;)Z"⟩, prog_4_method_14_code, 3, (some .boolean), 1, 3),
  (⟨"LinkHouse$Link", "openParts", "(ILLinkHouse$ObjectFile;)V"⟩, prog_4_method_15_code, 6, none, 2, 3),
  (⟨"LinkHouse$Link", "part", "(II)LLinkHouse$Part;"⟩, prog_4_method_3_code, 4, (some (.object "LinkHouse$Part")), 2, 3),
  (⟨"LinkHouse$Link", "enterNames", "(ILLinkHouse$ObjectFile;)V"⟩, prog_4_method_16_code, 5, none, 2, 3),
  (⟨"LinkHouse$Link", "dropGroups", "(ILLinkHouse$ObjectFile;)V"⟩, prog_4_method_17_code, 6, none, 2, 3)]
def pg_mn5 : List (MethodName × ByteArray × Nat × Option FieldType × Nat × Nat) := [
  (⟨"LinkHouse$Link", "nameOf", "(II)LLinkHouse$Name;"⟩, prog_4_method_4_code, 5, (some (.object "LinkHouse$Name")), 2, 3),
  (⟨"LinkHouse$Link", "dropParts", "(ILLinkHouse$ObjectFile;II)V"⟩, prog_4_method_18_code, 7, none, 4, 3),
  (⟨"LinkHouse$Link", "defineNames", "(ILLinkHouse$ObjectFile;)Z"⟩, prog_4_method_19_code, 7, (some .boolean), 2, 3),
  (⟨"LinkHouse$Link", "settle", "(LLinkHouse$Name;ILLinkHouse$ObjectFile;I)Z"⟩, prog_4_method_20_code, 12, (some .boolean), 4, 3),
  (⟨"LinkHouse$Link", "takeMembers", "(I)Z"⟩, prog_4_method_12_code, 7, (some .boolean), 1, 3),
  (⟨"LinkHouse$Link", "firstWanted", "(LLinkHouse$ObjectFile;)I"⟩, prog_4_method_13_code, 4, (some .int), 1, 3),
  (⟨"LinkHouse$Link", "isWanted", "(LLinkHouse$Name;)Z"⟩, prog_4_method_11_code, 1, (some .boolean), 1, 3),
  (⟨"LinkHouse$Link", "defineOwn", "(Ljava/lang/String;I)V"⟩, prog_4_method_22_code, 4, none, 2, 3),
  (⟨"LinkHouse$Link", "isNameLeft", "()Z"⟩, prog_4_method_23_code, 4, (some .boolean), 0, 3),
  (⟨"LinkHouse$Link", "keepReached", "()V"⟩, prog_4_method_24_code, 3, none, 0, 3),
  (⟨"LinkHouse$Link", "definedAt", "(I)LLinkHouse$Name;"⟩, prog_4_method_5_code, 3, (some (.object "LinkHouse$Name")), 1, 3),
  (⟨"LinkHouse$Link", "reachName", "(LLinkHouse$Name;)V"⟩, prog_4_method_25_code, 2, none, 1, 3),
  (⟨"LinkHouse$Link", "reachPart", "(LLinkHouse$Part;)V"⟩, prog_4_method_26_code, 2, none, 1, 3),
  (⟨"LinkHouse$Link", "reachFrom", "(LLinkHouse$Part;)V"⟩, prog_4_method_27_code, 7, none, 1, 3),
  (⟨"LinkHouse$Link", "object", "(I)LLinkHouse$ObjectFile;"⟩, prog_4_method_2_code, 3, (some (.object "LinkHouse$ObjectFile")), 1, 3),
  (⟨"LinkHouse$Link", "reachSymbol", "(II)V"⟩, prog_4_method_28_code, 4, none, 2, 3)]
def pg_mn6 : List (MethodName × ByteArray × Nat × Option FieldType × Nat × Nat) := [
  (⟨"LinkHouse$Link", "partOf", "(II)LLinkHouse$Part;"⟩, prog_4_method_6_code, 8, (some (.object "LinkHouse$Part")), 2, 3),
  (⟨"LinkHouse$Link", "stayingTarget", "(II)LLinkHouse$Part;"⟩, prog_4_method_7_code, 5, (some (.object "LinkHouse$Part")), 2, 3),
  (⟨"LinkHouse$Link", "isShort", "(IILLinkHouse$Part;)Z"⟩, prog_4_method_29_code, 13, (some .boolean), 3, 3),
  (⟨"LinkHouse$Link", "countStaying", "()I"⟩, prog_4_method_8_code, 3, (some .int), 0, 3),
  (⟨"LinkHouse$Memory", "<init>", "()V"⟩, prog_5_method_1_code, 1, none, 0, 4),
  (⟨"LinkHouse$Memory", "rowAt", "(J)I"⟩, prog_5_method_10_code, 4, (some .int), 1, 4),
  (⟨"LinkHouse$Memory", "nearest", "(J)I"⟩, prog_5_method_9_code, 6, (some .int), 1, 4),
  (⟨"LinkHouse$Memory", "valueOf", "(I)J"⟩, prog_5_method_7_code, 2, (some .long), 1, 4),
  (⟨"LinkHouse$Memory", "isName", "(I)Z"⟩, prog_5_method_6_code, 6, (some .boolean), 1, 4),
  (⟨"LinkHouse$Memory", "nameStart", "(I)I"⟩, prog_5_method_8_code, 2, (some .int), 1, 4),
  (⟨"LinkHouse$Memory", "errorOf", "(LLinkHouse$Row;)I"⟩, prog_5_method_2_code, 16, (some .int), 1, 4),
  (⟨"LinkHouse$Memory", "rowError", "(LLinkHouse$Row;IJ)I"⟩, prog_5_method_3_code, 14, (some .int), 3, 4),
  (⟨"LinkHouse$Memory", "load", "(LLinkHouse$Row;)V"⟩, prog_5_method_4_code, 6, none, 1, 4),
  (⟨"LinkHouse$Memory", "findNames", "()V"⟩, prog_5_method_5_code, 11, none, 0, 4),
  (⟨"LinkHouse$Memory", "byteAt", "(J)I"⟩, prog_5_method_11_code, 6, (some .int), 1, 4),
  (⟨"LinkHouse$Memory", "flagsAt", "(J)J"⟩, prog_5_method_12_code, 4, (some .long), 1, 4)]
def pg_mn7 : List (MethodName × ByteArray × Nat × Option FieldType × Nat × Nat) := [
  (⟨"LinkHouse$Name", "<init>", "()V"⟩, prog_6_method_1_code, 1, none, 0, 5),
  (⟨"LinkHouse$Name", "setText", "(Ljava/lang/String;)V"⟩, prog_6_method_5_code, 3, none, 1, 5),
  (⟨"LinkHouse$Name", "wipe", "()V"⟩, prog_6_method_2_code, 1, none, 0, 5),
  (⟨"LinkHouse$Name", "append", "(I)V"⟩, prog_6_method_3_code, 4, none, 1, 5),
  (⟨"LinkHouse$Name", "renew", "(LLinkHouse$Name;)V"⟩, prog_6_method_6_code, 2, none, 1, 5),
  (⟨"LinkHouse$Name", "read", "(LLinkHouse$Row;I)V"⟩, prog_6_method_4_code, 4, none, 2, 5),
  (⟨"LinkHouse$Name", "isMissedOrWished", "()Z"⟩, prog_6_method_8_code, 1, (some .boolean), 0, 5),
  (⟨"LinkHouse$Name", "writeTo", "(LLinkHouse$Row;)V"⟩, prog_6_method_9_code, 5, none, 1, 5),
  (⟨"LinkHouse$Name", "isDefinedByInput", "()Z"⟩, prog_6_method_7_code, 1, (some .boolean), 0, 5),
  (⟨"LinkHouse$Names", "<init>", "(I)V"⟩, prog_7_method_1_code, 2, none, 1, 6),
  (⟨"LinkHouse$Names", "at", "(I)LLinkHouse$Name;"⟩, prog_7_method_2_code, 3, (some (.object "LinkHouse$Name")), 1, 6),
  (⟨"LinkHouse$Names", "enter", "(LLinkHouse$Name;)LLinkHouse$Name;"⟩, prog_7_method_4_code, 3, (some (.object "LinkHouse$Name")), 1, 6),
  (⟨"LinkHouse$Names", "find", "(LLinkHouse$Name;)LLinkHouse$Name;"⟩, prog_7_method_3_code, 4, (some (.object "LinkHouse$Name")), 1, 6),
  (⟨"LinkHouse$ObjectFile", "<init>", "(LLinkHouse$Row;II)V"⟩, prog_8_method_1_code, 4, none, 3, 7),
  (⟨"LinkHouse$ObjectFile", "groupOf", "(J)I"⟩, prog_8_method_12_code, 3, (some .int), 1, 7),
  (⟨"LinkHouse$ObjectFile", "lengthOf", "(I)J"⟩, prog_8_method_8_code, 2, (some .long), 1, 7)]
def pg_mn8 : List (MethodName × ByteArray × Nat × Option FieldType × Nat × Nat) := [
  (⟨"LinkHouse$ObjectFile", "num", "(II)J"⟩, prog_8_method_3_code, 7, (some .long), 2, 7),
  (⟨"LinkHouse$ObjectFile", "alignOf", "(I)J"⟩, prog_8_method_11_code, 2, (some .long), 1, 7),
  (⟨"LinkHouse$ObjectFile", "placeOf", "(I)J"⟩, prog_8_method_7_code, 2, (some .long), 1, 7),
  (⟨"LinkHouse$ObjectFile", "isStrings", "(I)Z"⟩, prog_8_method_34_code, 2, (some .boolean), 1, 7),
  (⟨"LinkHouse$ObjectFile", "bindOf", "(I)I"⟩, prog_8_method_15_code, 2, (some .int), 1, 7),
  (⟨"LinkHouse$ObjectFile", "nameStart", "(I)I"⟩, prog_8_method_20_code, 2, (some .int), 1, 7),
  (⟨"LinkHouse$ObjectFile", "typeOf", "(I)J"⟩, prog_8_method_5_code, 2, (some .long), 1, 7),
  (⟨"LinkHouse$ObjectFile", "infoOf", "(I)J"⟩, prog_8_method_10_code, 2, (some .long), 1, 7),
  (⟨"LinkHouse$ObjectFile", "whereOf", "(I)I"⟩, prog_8_method_17_code, 2, (some .int), 1, 7),
  (⟨"LinkHouse$ObjectFile", "isDefining", "(I)Z"⟩, prog_8_method_19_code, 2, (some .boolean), 1, 7),
  (⟨"LinkHouse$ObjectFile", "targetOf", "(I)I"⟩, prog_8_method_13_code, 4, (some .int), 1, 7),
  (⟨"LinkHouse$ObjectFile", "sitesOf", "(I)I"⟩, prog_8_method_14_code, 2, (some .int), 1, 7),
  (⟨"LinkHouse$ObjectFile", "valueOf", "(I)J"⟩, prog_8_method_18_code, 2, (some .long), 1, 7),
  (⟨"LinkHouse$ObjectFile", "kindOf", "(I)I"⟩, prog_8_method_16_code, 2, (some .int), 1, 7),
  (⟨"LinkHouse$ObjectFile", "flagsOf", "(I)J"⟩, prog_8_method_6_code, 2, (some .long), 1, 7),
  (⟨"LinkHouse$ObjectFile", "open", "(III)V"⟩, prog_8_method_2_code, 4, none, 3, 7)]
def pg_mn9 : List (MethodName × ByteArray × Nat × Option FieldType × Nat × Nat) := [
  (⟨"LinkHouse$ObjectFile", "readError", "([I)I"⟩, prog_8_method_21_code, 4, (some .int), 1, 7),
  (⟨"LinkHouse$ObjectFile", "isHeadGood", "()Z"⟩, prog_8_method_22_code, 2, (some .boolean), 0, 7),
  (⟨"LinkHouse$ObjectFile", "areRowsGood", "()Z"⟩, prog_8_method_23_code, 4, (some .boolean), 0, 7),
  (⟨"LinkHouse$ObjectFile", "holds", "(JJ)Z"⟩, prog_8_method_4_code, 5, (some .boolean), 2, 7),
  (⟨"LinkHouse$ObjectFile", "sectionsError", "()I"⟩, prog_8_method_24_code, 7, (some .int), 0, 7),
  (⟨"LinkHouse$ObjectFile", "findGroup", "(JJ)I"⟩, prog_8_method_25_code, 4, (some .int), 2, 7),
  (⟨"LinkHouse$ObjectFile", "findSymbols", "()Z"⟩, prog_8_method_26_code, 5, (some .boolean), 0, 7),
  (⟨"LinkHouse$ObjectFile", "linkOf", "(I)J"⟩, prog_8_method_9_code, 2, (some .long), 1, 7),
  (⟨"LinkHouse$ObjectFile", "isSymbolGood", "(I)Z"⟩, prog_8_method_27_code, 5, (some .boolean), 1, 7),
  (⟨"LinkHouse$ObjectFile", "isNameGood", "(I)Z"⟩, prog_8_method_28_code, 5, (some .boolean), 1, 7),
  (⟨"LinkHouse$ObjectFile", "areSitesGood", "([I)Z"⟩, prog_8_method_29_code, 7, (some .boolean), 1, 7),
  (⟨"LinkHouse$ObjectFile", "isSiteGood", "(II[I)Z"⟩, prog_8_method_30_code, 11, (some .boolean), 3, 7),
  (⟨"LinkHouse$ObjectFile", "areGroupsGood", "()Z"⟩, prog_8_method_31_code, 11, (some .boolean), 0, 7),
  (⟨"LinkHouse$ObjectFile", "findStrings", "()V"⟩, prog_8_method_32_code, 3, none, 0, 7),
  (⟨"LinkHouse$ObjectFile", "isStringRow", "(I)Z"⟩, prog_8_method_33_code, 4, (some .boolean), 1, 7),
  (⟨"LinkHouse$Part", "<init>", "()V"⟩, prog_9_method_1_code, 1, none, 0, 8)]
def pg_mn10 : List (MethodName × ByteArray × Nat × Option FieldType × Nat × Nat) := [
  (⟨"LinkHouse$Pool", "<init>", "(LLinkHouse$Row;)V"⟩, prog_10_method_1_code, 2, none, 1, 9),
  (⟨"LinkHouse$Pool", "clear", "()V"⟩, prog_10_method_2_code, 1, none, 0, 9),
  (⟨"LinkHouse$Pool", "collect", "(LLinkHouse$Part;)V"⟩, prog_10_method_3_code, 5, none, 1, 9),
  (⟨"LinkHouse$Pool", "admit", "(II)V"⟩, prog_10_method_4_code, 5, none, 2, 9),
  (⟨"LinkHouse$Pool", "isEnd", "(IIII)Z"⟩, prog_10_method_5_code, 8, (some .boolean), 4, 9),
  (⟨"LinkHouse$Pool", "addressIn", "(LLinkHouse$Part;J)J"⟩, prog_10_method_6_code, 11, (some .long), 2, 9),
  (⟨"LinkHouse$Row", "<init>", "(I)V"⟩, prog_11_method_1_code, 2, none, 1, 10),
  (⟨"LinkHouse$Row", "at", "(I)I"⟩, prog_11_method_3_code, 2, (some .int), 1, 10),
  (⟨"LinkHouse$Row", "clear", "()V"⟩, prog_11_method_2_code, 1, none, 0, 10),
  (⟨"LinkHouse$Row", "putAll", "([B)V"⟩, prog_11_method_10_code, 3, none, 1, 10),
  (⟨"LinkHouse$Row", "put", "(IJ)V"⟩, prog_11_method_8_code, 5, none, 2, 10),
  (⟨"LinkHouse$Row", "fillTo", "(JI)V"⟩, prog_11_method_14_code, 5, none, 2, 10),
  (⟨"LinkHouse$Row", "cover", "(I[BII)V"⟩, prog_11_method_16_code, 5, none, 4, 10),
  (⟨"LinkHouse$Row", "set", "(IIJ)V"⟩, prog_11_method_13_code, 7, none, 3, 10),
  (⟨"LinkHouse$Row", "copy", "([BII)V"⟩, prog_11_method_15_code, 4, none, 3, 10),
  (⟨"LinkHouse$Row", "putDecimal", "(I)V"⟩, prog_11_method_11_code, 3, none, 1, 10)]
def pg_mn11 : List (MethodName × ByteArray × Nat × Option FieldType × Nat × Nat) := [
  (⟨"LinkHouse$Row", "putHighestFirst", "(I)V"⟩, prog_11_method_9_code, 3, none, 1, 10),
  (⟨"LinkHouse$Row", "num", "(II)J"⟩, prog_11_method_4_code, 6, (some .long), 2, 10),
  (⟨"LinkHouse$Row", "nameLength", "(II)I"⟩, prog_11_method_6_code, 4, (some .int), 2, 10),
  (⟨"LinkHouse$Row", "begins", "([B)Z"⟩, prog_11_method_7_code, 3, (some .boolean), 1, 10),
  (⟨"LinkHouse$Row", "holds", "(JJ)Z"⟩, prog_11_method_5_code, 5, (some .boolean), 2, 10),
  (⟨"LinkHouse$Row", "putHex", "(J)V"⟩, prog_11_method_12_code, 5, none, 1, 10),
  (⟨"LinkHouse$Scribe", "<init>", "(LLinkHouse$Link;LLinkHouse$Layout;LLinkHouse$Row;)V"⟩, prog_12_method_1_code, 4, none, 3, 11),
  (⟨"LinkHouse$Scribe", "writeMerged", "(LLinkHouse$Row;)Z"⟩, prog_12_method_10_code, 4, (some .boolean), 1, 11),
  (⟨"LinkHouse$Scribe", "numberParts", "()I"⟩, prog_12_method_11_code, 5, (some .int), 0, 11),
  (⟨"LinkHouse$Scribe", "numberSymbols", "()I"⟩, prog_12_method_12_code, 6, (some .int), 0, 11),
  (⟨"LinkHouse$Scribe", "listName", "(LLinkHouse$Name;)V"⟩, prog_12_method_13_code, 2, none, 1, 11),
  (⟨"LinkHouse$Scribe", "mergeParts", "(LLinkHouse$Row;I)V"⟩, prog_12_method_14_code, 8, none, 2, 11),
  (⟨"LinkHouse$Scribe", "nextPlace", "(LLinkHouse$Row;)I"⟩, prog_12_method_17_code, 1, (some .int), 1, 11),
  (⟨"LinkHouse$Scribe", "putRow", "(JJJJII)V"⟩, prog_12_method_18_code, 11, none, 6, 11),
  (⟨"LinkHouse$Scribe", "endRow", "(JI)V"⟩, prog_12_method_19_code, 4, none, 2, 11),
  (⟨"LinkHouse$Scribe", "mergeSites", "(LLinkHouse$Row;I)V"⟩, prog_12_method_15_code, 9, none, 2, 11)]
def pg_mn12 : List (MethodName × ByteArray × Nat × Option FieldType × Nat × Nat) := [
  (⟨"LinkHouse$Scribe", "freshSymbol", "(II)I"⟩, prog_12_method_16_code, 5, (some .int), 2, 11),
  (⟨"LinkHouse$Scribe", "mergeSymbols", "(LLinkHouse$Row;)V"⟩, prog_12_method_20_code, 6, none, 1, 11),
  (⟨"LinkHouse$Scribe", "mergeLocal", "(LLinkHouse$Row;II)V"⟩, prog_12_method_21_code, 10, none, 3, 11),
  (⟨"LinkHouse$Scribe", "putSymbol", "(LLinkHouse$Row;IIIJJ)V"⟩, prog_12_method_23_code, 8, none, 6, 11),
  (⟨"LinkHouse$Scribe", "mergeName", "(LLinkHouse$Row;LLinkHouse$Name;I)V"⟩, prog_12_method_22_code, 5, none, 3, 11),
  (⟨"LinkHouse$Scribe", "mergeNames", "(LLinkHouse$Row;)V"⟩, prog_12_method_24_code, 4, none, 1, 11),
  (⟨"LinkHouse$Scribe", "writePacked", "(LLinkHouse$Row;[LLinkHouse$ObjectFile;)Z"⟩, prog_12_method_5_code, 9, (some .boolean), 2, 11),
  (⟨"LinkHouse$Scribe", "isObject", "(LLinkHouse$ObjectFile;)Z"⟩, prog_12_method_6_code, 1, (some .boolean), 1, 11),
  (⟨"LinkHouse$Scribe", "writeIndex", "(LLinkHouse$Row;[LLinkHouse$ObjectFile;II)V"⟩, prog_12_method_7_code, 10, none, 4, 11),
  (⟨"LinkHouse$Scribe", "writeAhead", "(LLinkHouse$Row;II)V"⟩, prog_12_method_9_code, 3, none, 3, 11),
  (⟨"LinkHouse$Scribe", "writeObjects", "(LLinkHouse$Row;[LLinkHouse$ObjectFile;)V"⟩, prog_12_method_8_code, 7, none, 2, 11),
  (⟨"LinkHouse$Scribe", "writeNamed", "(LLinkHouse$Row;LLinkHouse$Row;)Z"⟩, prog_12_method_25_code, 8, (some .boolean), 2, 11),
  (⟨"LinkHouse$Scribe", "rowOf", "(LLinkHouse$Name;)I"⟩, prog_12_method_26_code, 7, (some .int), 1, 11),
  (⟨"LinkHouse$Scribe", "writeSegmentRows", "()V"⟩, prog_12_method_27_code, 2, none, 0, 11),
  (⟨"LinkHouse$Scribe", "writeList", "(LLinkHouse$Row;LLinkHouse$ObjectFile;)V"⟩, prog_12_method_2_code, 4, none, 2, 11),
  (⟨"LinkHouse$Scribe", "letterOf", "(LLinkHouse$ObjectFile;I)I"⟩, prog_12_method_3_code, 6, (some .int), 2, 11)]
def pg_mn13 : List (MethodName × ByteArray × Nat × Option FieldType × Nat × Nat) := [
  (⟨"LinkHouse$Scribe", "writeMap", "(LLinkHouse$Row;)Z"⟩, prog_12_method_4_code, 4, (some .boolean), 1, 11),
  (⟨"LinkHouseModel", "<init>", "()V"⟩, prog_14_method_1_code, 1, none, 0, 12),
  (⟨"LinkHouseModel", "thrown", "()I"⟩, prog_14_method_2_code, 1, (some .int), 0, 12),
  (⟨"LinkHouseModel", "feed", "(IJ)I"⟩, prog_14_method_4_code, 6, (some .int), 2, 12),
  (⟨"LinkHouseModel", "throwing", "(ZZ)Z"⟩, prog_14_method_3_code, 3, (some .boolean), 2, 12),
  (⟨"LinkHouseModel", "add", "()I"⟩, prog_14_method_47_code, 3, (some .int), 0, 12),
  (⟨"LinkHouseModel", "fileError", "(II)I"⟩, prog_14_method_46_code, 6, (some .int), 2, 12),
  (⟨"LinkHouseModel", "num", "(II)J"⟩, prog_14_method_5_code, 6, (some .long), 2, 12),
  (⟨"LinkHouseModel", "objectError", "(II)I"⟩, prog_14_method_44_code, 6, (some .int), 2, 12),
  (⟨"LinkHouseModel", "isHeader", "(I)Z"⟩, prog_14_method_28_code, 3, (some .boolean), 1, 12),
  (⟨"LinkHouseModel", "sections", "(I)I"⟩, prog_14_method_6_code, 2, (some .int), 1, 12),
  (⟨"LinkHouseModel", "lies", "(JJJ)Z"⟩, prog_14_method_27_code, 6, (some .boolean), 3, 12),
  (⟨"LinkHouseModel", "type", "(II)J"⟩, prog_14_method_8_code, 3, (some .long), 2, 12),
  (⟨"LinkHouseModel", "row", "(II)I"⟩, prog_14_method_7_code, 3, (some .int), 2, 12),
  (⟨"LinkHouseModel", "sectionError", "(III)I"⟩, prog_14_method_29_code, 5, (some .int), 3, 12),
  (⟨"LinkHouseModel", "beginning", "(II)J"⟩, prog_14_method_10_code, 3, (some .long), 2, 12)]
def pg_mn14 : List (MethodName × ByteArray × Nat × Option FieldType × Nat × Nat) := [
  (⟨"LinkHouseModel", "size", "(II)J"⟩, prog_14_method_11_code, 3, (some .long), 2, 12),
  (⟨"LinkHouseModel", "isKept", "(II)Z"⟩, prog_14_method_15_code, 3, (some .boolean), 2, 12),
  (⟨"LinkHouseModel", "flagsOf", "(II)J"⟩, prog_14_method_9_code, 3, (some .long), 2, 12),
  (⟨"LinkHouseModel", "align", "(II)J"⟩, prog_14_method_14_code, 3, (some .long), 2, 12),
  (⟨"LinkHouseModel", "isPower", "(J)Z"⟩, prog_14_method_26_code, 2, (some .boolean), 1, 12),
  (⟨"LinkHouseModel", "symbolsError", "(I)I"⟩, prog_14_method_30_code, 7, (some .int), 1, 12),
  (⟨"LinkHouseModel", "symbols", "(I)I"⟩, prog_14_method_17_code, 3, (some .int), 1, 12),
  (⟨"LinkHouseModel", "linkOf", "(II)J"⟩, prog_14_method_12_code, 3, (some .long), 2, 12),
  (⟨"LinkHouseModel", "symbolMany", "(I)I"⟩, prog_14_method_18_code, 3, (some .int), 1, 12),
  (⟨"LinkHouseModel", "isSymbol", "(II)Z"⟩, prog_14_method_31_code, 6, (some .boolean), 2, 12),
  (⟨"LinkHouseModel", "where", "(II)I"⟩, prog_14_method_21_code, 3, (some .int), 2, 12),
  (⟨"LinkHouseModel", "symbol", "(II)I"⟩, prog_14_method_19_code, 3, (some .int), 2, 12),
  (⟨"LinkHouseModel", "bind", "(II)I"⟩, prog_14_method_20_code, 3, (some .int), 2, 12),
  (⟨"LinkHouseModel", "isName", "(II)Z"⟩, prog_14_method_32_code, 9, (some .boolean), 2, 12),
  (⟨"LinkHouseModel", "value", "(II)J"⟩, prog_14_method_22_code, 3, (some .long), 2, 12),
  (⟨"LinkHouseModel", "symbolSize", "(II)J"⟩, prog_14_method_23_code, 3, (some .long), 2, 12)]
def pg_mn15 : List (MethodName × ByteArray × Nat × Option FieldType × Nat × Nat) := [
  (⟨"LinkHouseModel", "sitesError", "(I)I"⟩, prog_14_method_39_code, 4, (some .int), 1, 12),
  (⟨"LinkHouseModel", "isSites", "(II)Z"⟩, prog_14_method_35_code, 3, (some .boolean), 2, 12),
  (⟨"LinkHouseModel", "info", "(II)J"⟩, prog_14_method_13_code, 3, (some .long), 2, 12),
  (⟨"LinkHouseModel", "siteMany", "(II)I"⟩, prog_14_method_36_code, 3, (some .int), 2, 12),
  (⟨"LinkHouseModel", "isSite", "(III)Z"⟩, prog_14_method_38_code, 12, (some .boolean), 3, 12),
  (⟨"LinkHouseModel", "site", "(III)I"⟩, prog_14_method_37_code, 4, (some .int), 3, 12),
  (⟨"LinkHouseModel", "width", "(J)I"⟩, prog_14_method_34_code, 2, (some .int), 1, 12),
  (⟨"LinkHouseModel", "isSlotted", "(J)Z"⟩, prog_14_method_33_code, 2, (some .boolean), 1, 12),
  (⟨"LinkHouseModel", "groupsError", "(I)I"⟩, prog_14_method_43_code, 3, (some .int), 1, 12),
  (⟨"LinkHouseModel", "isGroup", "(II)Z"⟩, prog_14_method_40_code, 3, (some .boolean), 2, 12),
  (⟨"LinkHouseModel", "isGroupRight", "(II)Z"⟩, prog_14_method_42_code, 7, (some .boolean), 2, 12),
  (⟨"LinkHouseModel", "groupNumber", "(III)J"⟩, prog_14_method_41_code, 4, (some .long), 3, 12),
  (⟨"LinkHouseModel", "isMembers", "(II)Z"⟩, prog_14_method_45_code, 9, (some .boolean), 2, 12),
  (⟨"LinkHouseModel", "drop", "()I"⟩, prog_14_method_48_code, 1, (some .int), 0, 12),
  (⟨"LinkHouseModel", "give", "(J)I"⟩, prog_14_method_57_code, 7, (some .int), 1, 12),
  (⟨"LinkHouseModel", "isTapeName", "()Z"⟩, prog_14_method_56_code, 3, (some .boolean), 0, 12)]
def pg_mn16 : List (MethodName × ByteArray × Nat × Option FieldType × Nat × Nat) := [
  (⟨"LinkHouseModel", "toldAt", "([B[II)I"⟩, prog_14_method_55_code, 7, (some .int), 3, 12),
  (⟨"LinkHouseModel", "wish", "()I"⟩, prog_14_method_58_code, 5, (some .int), 0, 12),
  (⟨"LinkHouseModel", "forget", "()V"⟩, prog_14_method_59_code, 1, none, 0, 12),
  (⟨"LinkHouseModel", "link", "(Z)I"⟩, prog_14_method_115_code, 3, (some .int), 1, 12),
  (⟨"LinkHouseModel", "tellNames", "()V"⟩, prog_14_method_53_code, 3, none, 0, 12),
  (⟨"LinkHouseModel", "entered", "([BII)I"⟩, prog_14_method_51_code, 6, (some .int), 3, 12),
  (⟨"LinkHouseModel", "find", "([BII)I"⟩, prog_14_method_49_code, 7, (some .int), 3, 12),
  (⟨"LinkHouseModel", "takeAll", "()V"⟩, prog_14_method_70_code, 2, none, 0, 12),
  (⟨"LinkHouseModel", "takeFrom", "(I)V"⟩, prog_14_method_69_code, 6, none, 1, 12),
  (⟨"LinkHouseModel", "helps", "(I)I"⟩, prog_14_method_68_code, 5, (some .int), 1, 12),
  (⟨"LinkHouseModel", "nameOf", "(II)I"⟩, prog_14_method_50_code, 3, (some .int), 2, 12),
  (⟨"LinkHouseModel", "nameAt", "(II)I"⟩, prog_14_method_24_code, 3, (some .int), 2, 12),
  (⟨"LinkHouseModel", "nameEnd", "(II)I"⟩, prog_14_method_25_code, 4, (some .int), 2, 12),
  (⟨"LinkHouseModel", "take", "(I)V"⟩, prog_14_method_67_code, 6, none, 1, 12),
  (⟨"LinkHouseModel", "dropGroups", "(I)V"⟩, prog_14_method_66_code, 5, none, 1, 12),
  (⟨"LinkHouseModel", "object", "(I)I"⟩, prog_14_method_71_code, 2, (some .int), 1, 12)]
def pg_mn17 : List (MethodName × ByteArray × Nat × Option FieldType × Nat × Nat) := [
  (⟨"LinkHouseModel", "isAgain", "(II)Z"⟩, prog_14_method_65_code, 8, (some .boolean), 2, 12),
  (⟨"LinkHouseModel", "enter", "(II)I"⟩, prog_14_method_52_code, 3, (some .int), 2, 12),
  (⟨"LinkHouseModel", "come", "(III)Z"⟩, prog_14_method_63_code, 6, (some .boolean), 3, 12),
  (⟨"LinkHouseModel", "strengthOf", "(II)I"⟩, prog_14_method_61_code, 3, (some .int), 2, 12),
  (⟨"LinkHouseModel", "whereNow", "(II)I"⟩, prog_14_method_60_code, 4, (some .int), 2, 12),
  (⟨"LinkHouseModel", "say", "([BII)V"⟩, prog_14_method_64_code, 5, none, 3, 12),
  (⟨"LinkHouseModel", "ownNames", "()V"⟩, prog_14_method_72_code, 4, none, 0, 12),
  (⟨"LinkHouseModel", "look2", "()V"⟩, prog_14_method_83_code, 5, none, 0, 12),
  (⟨"LinkHouseModel", "start", "()I"⟩, prog_14_method_84_code, 2, (some .int), 0, 12),
  (⟨"LinkHouseModel", "reach", "()V"⟩, prog_14_method_76_code, 3, none, 0, 12),
  (⟨"LinkHouseModel", "reachName", "(I)V"⟩, prog_14_method_74_code, 2, none, 1, 12),
  (⟨"LinkHouseModel", "isGiven", "(I)Z"⟩, prog_14_method_54_code, 2, (some .boolean), 1, 12),
  (⟨"LinkHouseModel", "reachSection", "(II)V"⟩, prog_14_method_73_code, 3, none, 2, 12),
  (⟨"LinkHouseModel", "reachSites", "(I)V"⟩, prog_14_method_75_code, 6, none, 1, 12),
  (⟨"LinkHouseModel", "lay", "()V"⟩, prog_14_method_86_code, 6, none, 0, 12),
  (⟨"LinkHouseModel", "stays", "(II)Z"⟩, prog_14_method_62_code, 3, (some .boolean), 2, 12)]
def pg_mn18 : List (MethodName × ByteArray × Nat × Option FieldType × Nat × Nat) := [
  (⟨"LinkHouseModel", "group", "(II)I"⟩, prog_14_method_16_code, 4, (some .int), 2, 12),
  (⟨"LinkHouseModel", "findPool", "()V"⟩, prog_14_method_93_code, 7, none, 0, 12),
  (⟨"LinkHouseModel", "isStrings", "(II)Z"⟩, prog_14_method_89_code, 5, (some .boolean), 2, 12),
  (⟨"LinkHouseModel", "nodeOf", "(IIZ)I"⟩, prog_14_method_91_code, 6, (some .int), 3, 12),
  (⟨"LinkHouseModel", "childOf", "(IBZ)I"⟩, prog_14_method_90_code, 5, (some .int), 3, 12),
  (⟨"LinkHouseModel", "toPool", "(II)V"⟩, prog_14_method_92_code, 6, none, 2, 12),
  (⟨"LinkHouseModel", "findSlots", "()V"⟩, prog_14_method_82_code, 8, none, 0, 12),
  (⟨"LinkHouseModel", "isShort", "(III)Z"⟩, prog_14_method_81_code, 4, (some .boolean), 3, 12),
  (⟨"LinkHouseModel", "shortKind", "(III)I"⟩, prog_14_method_80_code, 13, (some .int), 3, 12),
  (⟨"LinkHouseModel", "isInside", "(II)Z"⟩, prog_14_method_78_code, 5, (some .boolean), 2, 12),
  (⟨"LinkHouseModel", "isSectionNow", "(II)Z"⟩, prog_14_method_79_code, 3, (some .boolean), 2, 12),
  (⟨"LinkHouseModel", "slotOf", "(IIZ)I"⟩, prog_14_method_77_code, 7, (some .int), 3, 12),
  (⟨"LinkHouseModel", "layout", "()V"⟩, prog_14_method_102_code, 4, none, 0, 12),
  (⟨"LinkHouseModel", "findSegments", "()V"⟩, prog_14_method_95_code, 3, none, 0, 12),
  (⟨"LinkHouseModel", "segmentOf", "(I)I"⟩, prog_14_method_87_code, 1, (some .int), 1, 12),
  (⟨"LinkHouseModel", "isCommon", "(I)Z"⟩, prog_14_method_88_code, 2, (some .boolean), 1, 12)]
def pg_mn19 : List (MethodName × ByteArray × Nat × Option FieldType × Nat × Nat) := [
  (⟨"LinkHouseModel", "isThreaded", "()Z"⟩, prog_14_method_99_code, 3, (some .boolean), 0, 12),
  (⟨"LinkHouseModel", "placeSegment", "(IJ)V"⟩, prog_14_method_101_code, 10, none, 2, 12),
  (⟨"LinkHouseModel", "up", "(JJ)J"⟩, prog_14_method_85_code, 4, (some .long), 2, 12),
  (⟨"LinkHouseModel", "placeGroup", "(IJZ)J"⟩, prog_14_method_96_code, 10, (some .long), 3, 12),
  (⟨"LinkHouseModel", "placeStrings", "(J)J"⟩, prog_14_method_98_code, 5, (some .long), 1, 12),
  (⟨"LinkHouseModel", "byteAddress", "(IIJ)J"⟩, prog_14_method_94_code, 7, (some .long), 3, 12),
  (⟨"LinkHouseModel", "placeCommons", "(JZ)J"⟩, prog_14_method_97_code, 8, (some .long), 2, 12),
  (⟨"LinkHouseModel", "findTemplate", "()V"⟩, prog_14_method_100_code, 7, none, 0, 12),
  (⟨"LinkHouseModel", "ownAddress", "(I)J"⟩, prog_14_method_103_code, 2, (some .long), 1, 12),
  (⟨"LinkHouseModel", "own", "(II)J"⟩, prog_14_method_104_code, 5, (some .long), 2, 12),
  (⟨"LinkHouseModel", "sites", "(Z)V"⟩, prog_14_method_110_code, 6, none, 1, 12),
  (⟨"LinkHouseModel", "one", "(IIIZ)V"⟩, prog_14_method_111_code, 11, none, 4, 12),
  (⟨"LinkHouseModel", "siteValue", "(III)J"⟩, prog_14_method_108_code, 12, (some .long), 3, 12),
  (⟨"LinkHouseModel", "symbolAddress", "(II)J"⟩, prog_14_method_105_code, 3, (some .long), 2, 12),
  (⟨"LinkHouseModel", "siteAddress", "(III)J"⟩, prog_14_method_106_code, 4, (some .long), 3, 12),
  (⟨"LinkHouseModel", "isOfStrings", "(II)Z"⟩, prog_14_method_107_code, 5, (some .boolean), 2, 12)]
def pg_mn20 : List (MethodName × ByteArray × Nat × Option FieldType × Nat × Nat) := [
  (⟨"LinkHouseModel", "fillSite", "(IJII)V"⟩, prog_14_method_112_code, 6, none, 4, 12),
  (⟨"LinkHouseModel", "put", "(IJI)V"⟩, prog_14_method_113_code, 6, none, 3, 12),
  (⟨"LinkHouseModel", "runsOver", "(JJ)Z"⟩, prog_14_method_109_code, 5, (some .boolean), 2, 12),
  (⟨"LinkHouseModel", "write", "()V"⟩, prog_14_method_114_code, 7, none, 0, 12),
  (⟨"LinkHouseModel", "keepLink", "()V"⟩, prog_14_method_116_code, 6, none, 0, 12),
  (⟨"LinkHouseModel", "named", "()I"⟩, prog_14_method_118_code, 11, (some .int), 0, 12),
  (⟨"LinkHouseModel", "wider", "(I)I"⟩, prog_14_method_129_code, 2, (some .int), 1, 12),
  (⟨"LinkHouseModel", "numberOf", "(I)I"⟩, prog_14_method_117_code, 4, (some .int), 1, 12),
  (⟨"LinkHouseModel", "namedSegment", "(II)V"⟩, prog_14_method_119_code, 3, none, 2, 12),
  (⟨"LinkHouseModel", "cause", "(II)I"⟩, prog_14_method_120_code, 4, (some .int), 2, 12),
  (⟨"LinkHouseModel", "sum", "(III)J"⟩, prog_14_method_121_code, 9, (some .long), 3, 12),
  (⟨"LinkHouseModel", "merge", "()I"⟩, prog_14_method_140_code, 2, (some .int), 0, 12),
  (⟨"LinkHouseModel", "merges", "()Z"⟩, prog_14_method_132_code, 3, (some .boolean), 0, 12),
  (⟨"LinkHouseModel", "countParts", "()V"⟩, prog_14_method_123_code, 4, none, 0, 12),
  (⟨"LinkHouseModel", "part", "(II)V"⟩, prog_14_method_122_code, 3, none, 2, 12),
  (⟨"LinkHouseModel", "countSymbols", "()V"⟩, prog_14_method_125_code, 3, none, 0, 12)]
def pg_mn21 : List (MethodName × ByteArray × Nat × Option FieldType × Nat × Nat) := [
  (⟨"LinkHouseModel", "numberName", "(I)V"⟩, prog_14_method_124_code, 2, none, 1, 12),
  (⟨"LinkHouseModel", "mergedRow", "(I)I"⟩, prog_14_method_131_code, 2, (some .int), 1, 12),
  (⟨"LinkHouseModel", "placeOf", "(I)I"⟩, prog_14_method_130_code, 4, (some .int), 1, 12),
  (⟨"LinkHouseModel", "partSize", "(I)I"⟩, prog_14_method_127_code, 2, (some .int), 1, 12),
  (⟨"LinkHouseModel", "isPart", "(IJ)Z"⟩, prog_14_method_126_code, 4, (some .boolean), 2, 12),
  (⟨"LinkHouseModel", "textMany", "()I"⟩, prog_14_method_128_code, 3, (some .int), 0, 12),
  (⟨"LinkHouseModel", "mergedSites", "(I)V"⟩, prog_14_method_135_code, 7, none, 1, 12),
  (⟨"LinkHouseModel", "mergedRows", "(IJJIIJJ)V"⟩, prog_14_method_133_code, 13, none, 7, 12),
  (⟨"LinkHouseModel", "mergedSection", "(I)V"⟩, prog_14_method_134_code, 5, none, 1, 12),
  (⟨"LinkHouseModel", "mergedLocals", "()V"⟩, prog_14_method_137_code, 7, none, 0, 12),
  (⟨"LinkHouseModel", "mergedSymbol", "(IIIJJ)V"⟩, prog_14_method_136_code, 9, none, 5, 12),
  (⟨"LinkHouseModel", "mergedNames", "()V"⟩, prog_14_method_138_code, 5, none, 0, 12),
  (⟨"LinkHouseModel", "mergedDefinition", "(III)V"⟩, prog_14_method_139_code, 6, none, 3, 12),
  (⟨"LinkHouseModel", "pack", "()I"⟩, prog_14_method_146_code, 12, (some .int), 0, 12),
  (⟨"LinkHouseModel", "findObjects", "()V"⟩, prog_14_method_141_code, 3, none, 0, 12),
  (⟨"LinkHouseModel", "isDefining", "(II)Z"⟩, prog_14_method_142_code, 3, (some .boolean), 2, 12)]
def pg_mn22 : List (MethodName × ByteArray × Nat × Option FieldType × Nat × Nat) := [
  (⟨"LinkHouseModel", "ahead", "(II)V"⟩, prog_14_method_144_code, 4, none, 2, 12),
  (⟨"LinkHouseModel", "digits", "(II)V"⟩, prog_14_method_143_code, 5, none, 2, 12),
  (⟨"LinkHouseModel", "highFirst", "(II)V"⟩, prog_14_method_145_code, 4, none, 2, 12),
  (⟨"LinkHouseModel", "list", "(II)I"⟩, prog_14_method_149_code, 7, (some .int), 2, 12),
  (⟨"LinkHouseModel", "sixteen", "(IJ)V"⟩, prog_14_method_147_code, 6, none, 2, 12),
  (⟨"LinkHouseModel", "letterOf", "(II)I"⟩, prog_14_method_148_code, 6, (some .int), 2, 12),
  (⟨"LinkHouseModel", "map", "()I"⟩, prog_14_method_152_code, 5, (some .int), 0, 12),
  (⟨"LinkHouseModel", "wide", "(I)I"⟩, prog_14_method_150_code, 1, (some .int), 1, 12),
  (⟨"LinkHouseModel", "sayNumber", "(II)V"⟩, prog_14_method_151_code, 3, none, 2, 12),
  (⟨"LinkHouseModel", "boot", "(Z)I"⟩, prog_14_method_157_code, 3, (some .int), 1, 12),
  (⟨"LinkHouseModel", "triedError", "()I"⟩, prog_14_method_156_code, 7, (some .int), 0, 12),
  (⟨"LinkHouseModel", "isExecutable", "()Z"⟩, prog_14_method_154_code, 2, (some .boolean), 0, 12),
  (⟨"LinkHouseModel", "triedNum", "(II)J"⟩, prog_14_method_153_code, 6, (some .long), 2, 12),
  (⟨"LinkHouseModel", "rowError", "(I)I"⟩, prog_14_method_155_code, 13, (some .int), 1, 12),
  (⟨"LinkHouseModel", "findMemoryNames", "()V"⟩, prog_14_method_158_code, 18, none, 0, 12),
  (⟨"LinkHouseModel", "memorySymbol", "(IJJ)V"⟩, prog_14_method_159_code, 10, none, 3, 12)]
def pg_mn23 : List (MethodName × ByteArray × Nat × Option FieldType × Nat × Nat) := [
  (⟨"LinkHouseModel", "near", "(J)J"⟩, prog_14_method_160_code, 6, (some .long), 1, 12),
  (⟨"LinkHouseModel", "rowOf", "(J)I"⟩, prog_14_method_161_code, 4, (some .int), 1, 12),
  (⟨"LinkHouseModel", "peek", "(J)I"⟩, prog_14_method_162_code, 6, (some .int), 1, 12),
  (⟨"LinkHouseModel", "flags", "(J)J"⟩, prog_14_method_163_code, 4, (some .long), 1, 12),
  (⟨"LinkHouseModel", "address", "()J"⟩, prog_14_method_164_code, 2, (some .long), 0, 12),
  (⟨"LinkHouseModel", "taken", "(II)Z"⟩, prog_14_method_165_code, 3, (some .boolean), 2, 12),
  (⟨"LinkHouseModel", "section", "(II)I"⟩, prog_14_method_166_code, 3, (some .int), 2, 12),
  (⟨"LinkHouseModel", "place", "(I)J"⟩, prog_14_method_167_code, 2, (some .long), 1, 12),
  (⟨"LinkHouseModel", "out", "(I)J"⟩, prog_14_method_168_code, 5, (some .long), 1, 12),
  (⟨"LinkHouseModel", "look", "(I)J"⟩, prog_14_method_169_code, 2, (some .long), 1, 12),
  (⟨"java/util/Arrays", "fill", "([IIII)V"⟩, prog_29_method_104_code, 5, none, 4, 17),
  (⟨"java/util/Arrays", "rangeCheck", "(III)V"⟩, prog_29_method_30_code, 3, none, 3, 17),
  (⟨"java/util/Arrays", "fill", "([JJ)V"⟩, prog_29_method_101_code, 5, none, 2, 17),
  (⟨"java/util/Arrays", "fill", "([BIIB)V"⟩, prog_29_method_110_code, 5, none, 4, 17),
  (⟨"LinkHouseLaw", "feed", "(LLinkHouse;IJ[J)I"⟩, method_3_code, 6, (some .int), 4, 16),
  (⟨"LinkHouseLaw", "add", "(LLinkHouse;[J)I"⟩, method_4_code, 3, (some .int), 2, 16)]
def pg_mn24 : List (MethodName × ByteArray × Nat × Option FieldType × Nat × Nat) := [
  (⟨"LinkHouseLaw", "drop", "(LLinkHouse;[J)I"⟩, method_5_code, 3, (some .int), 2, 16),
  (⟨"LinkHouseLaw", "give", "(LLinkHouse;J[J)I"⟩, method_6_code, 5, (some .int), 3, 16),
  (⟨"LinkHouseLaw", "wish", "(LLinkHouse;[J)I"⟩, method_7_code, 3, (some .int), 2, 16),
  (⟨"LinkHouseLaw", "named", "(LLinkHouse;[J)I"⟩, method_8_code, 3, (some .int), 2, 16),
  (⟨"LinkHouseLaw", "list", "(LLinkHouse;II[J)I"⟩, method_9_code, 5, (some .int), 4, 16),
  (⟨"LinkHouseLaw", "sum", "(LLinkHouse;III[J)I"⟩, method_10_code, 6, (some .int), 5, 16),
  (⟨"LinkHouseLaw", "map", "(LLinkHouse;[J)I"⟩, method_11_code, 3, (some .int), 2, 16),
  (⟨"LinkHouseLaw", "address", "(LLinkHouse;[J)I"⟩, method_12_code, 3, (some .int), 2, 16),
  (⟨"LinkHouseLaw", "taken", "(LLinkHouse;II[J)I"⟩, method_13_code, 5, (some .int), 4, 16),
  (⟨"LinkHouseLaw", "cause", "(LLinkHouse;II[J)I"⟩, method_14_code, 5, (some .int), 4, 16),
  (⟨"LinkHouseLaw", "section", "(LLinkHouse;II[J)I"⟩, method_15_code, 5, (some .int), 4, 16),
  (⟨"LinkHouseLaw", "place", "(LLinkHouse;I[J)I"⟩, method_16_code, 4, (some .int), 3, 16),
  (⟨"LinkHouseLaw", "out", "(LLinkHouse;I[J)I"⟩, method_17_code, 4, (some .int), 3, 16),
  (⟨"LinkHouseLaw", "look", "(LLinkHouse;I[J)I"⟩, method_18_code, 4, (some .int), 3, 16),
  (⟨"LinkHouseLaw", "law", "([I)Z"⟩, code, 8, (some .boolean), 1, 16)]
def pg_mm : List (List (MethodName × ByteArray × Nat × Option FieldType × Nat × Nat)) := [pg_mn0, pg_mn1, pg_mn2, pg_mn3, pg_mn4, pg_mn5, pg_mn6, pg_mn7, pg_mn8, pg_mn9, pg_mn10, pg_mn11, pg_mn12, pg_mn13, pg_mn14, pg_mn15, pg_mn16, pg_mn17, pg_mn18, pg_mn19, pg_mn20, pg_mn21, pg_mn22, pg_mn23, pg_mn24]
def pg_mx (mi : Nat) : MethodName × ByteArray × Nat × Option FieldType × Nat × Nat := (pg_mm.getD (mi / 16) []).getD (mi % 16) (⟨"", "", ""⟩, ⟨#[]⟩, 0, none, 0, 0)
def pg_mn (mi : Nat) : MethodName := (pg_mx mi).1
def pg_by (mi : Nat) : ByteArray := (pg_mx mi).2.1
def pg_ml (mi : Nat) : Nat := (pg_mx mi).2.2.1
def pg_rt (mi : Nat) : Option FieldType := (pg_mx mi).2.2.2.1
def pg_np (mi : Nat) : Nat := (pg_mx mi).2.2.2.2.1
def pg_oc (mi : Nat) : Nat := (pg_mx mi).2.2.2.2.2
abbrev m_H_init : Nat := 0
abbrev m_H_link : Nat := 1
abbrev m_H_runLink : Nat := 2
abbrev m_H_up : Nat := 3
abbrev m_H_siteWidth : Nat := 4
abbrev m_H_merge : Nat := 5
abbrev m_H_publishDraft : Nat := 6
abbrev m_H_forget : Nat := 7
abbrev m_H_pack : Nat := 8
abbrev m_H_near : Nat := 9
abbrev m_H_above : Nat := 10
abbrev m_H_boot : Nat := 11
abbrev m_H_peek : Nat := 12
abbrev m_H_flags : Nat := 13
abbrev m_H_feed : Nat := 14
abbrev m_H_add : Nat := 15
abbrev m_H_readFile : Nat := 16
abbrev m_H_readArchive : Nat := 17
abbrev m_H_memberSize : Nat := 18
abbrev m_H_isPower : Nat := 19
abbrev m_H_clearFile : Nat := 20
abbrev m_H_drop : Nat := 21
abbrev m_H_give : Nat := 22
abbrev m_H_readTapeName : Nat := 23
abbrev m_H_wish : Nat := 24
abbrev m_H_named : Nat := 25
abbrev m_H_list : Nat := 26
abbrev m_H_objectAt : Nat := 27
abbrev m_H_memberAt : Nat := 28
abbrev m_H_sum : Nat := 29
abbrev m_H_map : Nat := 30
abbrev m_H_address : Nat := 31
abbrev m_H_taken : Nat := 32
abbrev m_H_cause : Nat := 33
abbrev m_H_section : Nat := 34
abbrev m_H_place : Nat := 35
abbrev m_H_out : Nat := 36
abbrev m_H_look : Nat := 37
abbrev m_H_lookAtLink : Nat := 38
abbrev m_Filler_init : Nat := 39
abbrev m_Filler_write : Nat := 40
abbrev m_Filler_writeHead : Nat := 41
abbrev m_Filler_writeRow : Nat := 42
abbrev m_Filler_spotOf : Nat := 43
abbrev m_Filler_fillSites : Nat := 44
abbrev m_Filler_fillSite : Nat := 45
abbrev m_Filler_fillShort : Nat := 46
abbrev m_Filler_slotAddress : Nat := 47
abbrev m_Filler_sumFor : Nat := 48
abbrev m_Layout_init : Nat := 49
abbrev m_Layout_lay : Nat := 50
abbrev m_Layout_gather : Nat := 51
abbrev m_Layout_findSlots : Nat := 52
abbrev m_Layout_findSlot : Nat := 53
abbrev m_Layout_slotOf : Nat := 54
abbrev m_Layout_slotKey : Nat := 55
abbrev m_Layout_findSegments : Nat := 56
abbrev m_Layout_partAt : Nat := 57
abbrev m_Layout_segmentOf : Nat := 58
abbrev m_Layout_isLaidCommon : Nat := 59
abbrev m_Layout_layText : Nat := 60
abbrev m_Layout_countSegments : Nat := 61
abbrev m_Layout_layData : Nat := 62
abbrev m_Layout_layGroup : Nat := 63
abbrev m_Layout_layTemplate : Nat := 64
abbrev m_Layout_firstOf : Nat := 65
abbrev m_Layout_addressOf : Nat := 66
abbrev m_Layout_ownAddress : Nat := 67
abbrev m_Layout_isTooLarge : Nat := 68
abbrev m_Layout_slotValue : Nat := 69
abbrev m_Layout_symbolAddress : Nat := 70
abbrev m_Link_init : Nat := 71
abbrev m_Link_resolve : Nat := 72
abbrev m_Link_begin : Nat := 73
abbrev m_Link_define : Nat := 74
abbrev m_Link_takeObject : Nat := 75
abbrev m_Link_openParts : Nat := 76
abbrev m_Link_part : Nat := 77
abbrev m_Link_enterNames : Nat := 78
abbrev m_Link_dropGroups : Nat := 79
abbrev m_Link_nameOf : Nat := 80
abbrev m_Link_dropParts : Nat := 81
abbrev m_Link_defineNames : Nat := 82
abbrev m_Link_settle : Nat := 83
abbrev m_Link_takeMembers : Nat := 84
abbrev m_Link_firstWanted : Nat := 85
abbrev m_Link_isWanted : Nat := 86
abbrev m_Link_defineOwn : Nat := 87
abbrev m_Link_isNameLeft : Nat := 88
abbrev m_Link_keepReached : Nat := 89
abbrev m_Link_definedAt : Nat := 90
abbrev m_Link_reachName : Nat := 91
abbrev m_Link_reachPart : Nat := 92
abbrev m_Link_reachFrom : Nat := 93
abbrev m_Link_object : Nat := 94
abbrev m_Link_reachSymbol : Nat := 95
abbrev m_Link_partOf : Nat := 96
abbrev m_Link_stayingTarget : Nat := 97
abbrev m_Link_isShort : Nat := 98
abbrev m_Link_countStaying : Nat := 99
abbrev m_Memory_init : Nat := 100
abbrev m_Memory_rowAt : Nat := 101
abbrev m_Memory_nearest : Nat := 102
abbrev m_Memory_valueOf : Nat := 103
abbrev m_Memory_isName : Nat := 104
abbrev m_Memory_nameStart : Nat := 105
abbrev m_Memory_errorOf : Nat := 106
abbrev m_Memory_rowError : Nat := 107
abbrev m_Memory_load : Nat := 108
abbrev m_Memory_findNames : Nat := 109
abbrev m_Memory_byteAt : Nat := 110
abbrev m_Memory_flagsAt : Nat := 111
abbrev m_Name_init : Nat := 112
abbrev m_Name_setText : Nat := 113
abbrev m_Name_wipe : Nat := 114
abbrev m_Name_append : Nat := 115
abbrev m_Name_renew : Nat := 116
abbrev m_Name_read : Nat := 117
abbrev m_Name_isMissedOrWished : Nat := 118
abbrev m_Name_writeTo : Nat := 119
abbrev m_Name_isDefinedByInput : Nat := 120
abbrev m_Names_init : Nat := 121
abbrev m_Names_at : Nat := 122
abbrev m_Names_enter : Nat := 123
abbrev m_Names_find : Nat := 124
abbrev m_ObjectFile_init : Nat := 125
abbrev m_ObjectFile_groupOf : Nat := 126
abbrev m_ObjectFile_lengthOf : Nat := 127
abbrev m_ObjectFile_num : Nat := 128
abbrev m_ObjectFile_alignOf : Nat := 129
abbrev m_ObjectFile_placeOf : Nat := 130
abbrev m_ObjectFile_isStrings : Nat := 131
abbrev m_ObjectFile_bindOf : Nat := 132
abbrev m_ObjectFile_nameStart : Nat := 133
abbrev m_ObjectFile_typeOf : Nat := 134
abbrev m_ObjectFile_infoOf : Nat := 135
abbrev m_ObjectFile_whereOf : Nat := 136
abbrev m_ObjectFile_isDefining : Nat := 137
abbrev m_ObjectFile_targetOf : Nat := 138
abbrev m_ObjectFile_sitesOf : Nat := 139
abbrev m_ObjectFile_valueOf : Nat := 140
abbrev m_ObjectFile_kindOf : Nat := 141
abbrev m_ObjectFile_flagsOf : Nat := 142
abbrev m_ObjectFile_open : Nat := 143
abbrev m_ObjectFile_readError : Nat := 144
abbrev m_ObjectFile_isHeadGood : Nat := 145
abbrev m_ObjectFile_areRowsGood : Nat := 146
abbrev m_ObjectFile_holds : Nat := 147
abbrev m_ObjectFile_sectionsError : Nat := 148
abbrev m_ObjectFile_findGroup : Nat := 149
abbrev m_ObjectFile_findSymbols : Nat := 150
abbrev m_ObjectFile_linkOf : Nat := 151
abbrev m_ObjectFile_isSymbolGood : Nat := 152
abbrev m_ObjectFile_isNameGood : Nat := 153
abbrev m_ObjectFile_areSitesGood : Nat := 154
abbrev m_ObjectFile_isSiteGood : Nat := 155
abbrev m_ObjectFile_areGroupsGood : Nat := 156
abbrev m_ObjectFile_findStrings : Nat := 157
abbrev m_ObjectFile_isStringRow : Nat := 158
abbrev m_Part_init : Nat := 159
abbrev m_Pool_init : Nat := 160
abbrev m_Pool_clear : Nat := 161
abbrev m_Pool_collect : Nat := 162
abbrev m_Pool_admit : Nat := 163
abbrev m_Pool_isEnd : Nat := 164
abbrev m_Pool_addressIn : Nat := 165
abbrev m_Row_init : Nat := 166
abbrev m_Row_at : Nat := 167
abbrev m_Row_clear : Nat := 168
abbrev m_Row_putAll : Nat := 169
abbrev m_Row_put : Nat := 170
abbrev m_Row_fillTo : Nat := 171
abbrev m_Row_cover : Nat := 172
abbrev m_Row_set : Nat := 173
abbrev m_Row_copy : Nat := 174
abbrev m_Row_putDecimal : Nat := 175
abbrev m_Row_putHighestFirst : Nat := 176
abbrev m_Row_num : Nat := 177
abbrev m_Row_nameLength : Nat := 178
abbrev m_Row_begins : Nat := 179
abbrev m_Row_holds : Nat := 180
abbrev m_Row_putHex : Nat := 181
abbrev m_Scribe_init : Nat := 182
abbrev m_Scribe_writeMerged : Nat := 183
abbrev m_Scribe_numberParts : Nat := 184
abbrev m_Scribe_numberSymbols : Nat := 185
abbrev m_Scribe_listName : Nat := 186
abbrev m_Scribe_mergeParts : Nat := 187
abbrev m_Scribe_nextPlace : Nat := 188
abbrev m_Scribe_putRow : Nat := 189
abbrev m_Scribe_endRow : Nat := 190
abbrev m_Scribe_mergeSites : Nat := 191
abbrev m_Scribe_freshSymbol : Nat := 192
abbrev m_Scribe_mergeSymbols : Nat := 193
abbrev m_Scribe_mergeLocal : Nat := 194
abbrev m_Scribe_putSymbol : Nat := 195
abbrev m_Scribe_mergeName : Nat := 196
abbrev m_Scribe_mergeNames : Nat := 197
abbrev m_Scribe_writePacked : Nat := 198
abbrev m_Scribe_isObject : Nat := 199
abbrev m_Scribe_writeIndex : Nat := 200
abbrev m_Scribe_writeAhead : Nat := 201
abbrev m_Scribe_writeObjects : Nat := 202
abbrev m_Scribe_writeNamed : Nat := 203
abbrev m_Scribe_rowOf : Nat := 204
abbrev m_Scribe_writeSegmentRows : Nat := 205
abbrev m_Scribe_writeList : Nat := 206
abbrev m_Scribe_letterOf : Nat := 207
abbrev m_Scribe_writeMap : Nat := 208
abbrev m_M_init : Nat := 209
abbrev m_M_thrown : Nat := 210
abbrev m_M_feed : Nat := 211
abbrev m_M_throwing : Nat := 212
abbrev m_M_add : Nat := 213
abbrev m_M_fileError : Nat := 214
abbrev m_M_num : Nat := 215
abbrev m_M_objectError : Nat := 216
abbrev m_M_isHeader : Nat := 217
abbrev m_M_sections : Nat := 218
abbrev m_M_lies : Nat := 219
abbrev m_M_type : Nat := 220
abbrev m_M_row : Nat := 221
abbrev m_M_sectionError : Nat := 222
abbrev m_M_beginning : Nat := 223
abbrev m_M_size : Nat := 224
abbrev m_M_isKept : Nat := 225
abbrev m_M_flagsOf : Nat := 226
abbrev m_M_align : Nat := 227
abbrev m_M_isPower : Nat := 228
abbrev m_M_symbolsError : Nat := 229
abbrev m_M_symbols : Nat := 230
abbrev m_M_linkOf : Nat := 231
abbrev m_M_symbolMany : Nat := 232
abbrev m_M_isSymbol : Nat := 233
abbrev m_M_where : Nat := 234
abbrev m_M_symbol : Nat := 235
abbrev m_M_bind : Nat := 236
abbrev m_M_isName : Nat := 237
abbrev m_M_value : Nat := 238
abbrev m_M_symbolSize : Nat := 239
abbrev m_M_sitesError : Nat := 240
abbrev m_M_isSites : Nat := 241
abbrev m_M_info : Nat := 242
abbrev m_M_siteMany : Nat := 243
abbrev m_M_isSite : Nat := 244
abbrev m_M_site : Nat := 245
abbrev m_M_width : Nat := 246
abbrev m_M_isSlotted : Nat := 247
abbrev m_M_groupsError : Nat := 248
abbrev m_M_isGroup : Nat := 249
abbrev m_M_isGroupRight : Nat := 250
abbrev m_M_groupNumber : Nat := 251
abbrev m_M_isMembers : Nat := 252
abbrev m_M_drop : Nat := 253
abbrev m_M_give : Nat := 254
abbrev m_M_isTapeName : Nat := 255
abbrev m_M_toldAt : Nat := 256
abbrev m_M_wish : Nat := 257
abbrev m_M_forget : Nat := 258
abbrev m_M_link : Nat := 259
abbrev m_M_tellNames : Nat := 260
abbrev m_M_entered : Nat := 261
abbrev m_M_find : Nat := 262
abbrev m_M_takeAll : Nat := 263
abbrev m_M_takeFrom : Nat := 264
abbrev m_M_helps : Nat := 265
abbrev m_M_nameOf : Nat := 266
abbrev m_M_nameAt : Nat := 267
abbrev m_M_nameEnd : Nat := 268
abbrev m_M_take : Nat := 269
abbrev m_M_dropGroups : Nat := 270
abbrev m_M_object : Nat := 271
abbrev m_M_isAgain : Nat := 272
abbrev m_M_enter : Nat := 273
abbrev m_M_come : Nat := 274
abbrev m_M_strengthOf : Nat := 275
abbrev m_M_whereNow : Nat := 276
abbrev m_M_say : Nat := 277
abbrev m_M_ownNames : Nat := 278
abbrev m_M_look2 : Nat := 279
abbrev m_M_start : Nat := 280
abbrev m_M_reach : Nat := 281
abbrev m_M_reachName : Nat := 282
abbrev m_M_isGiven : Nat := 283
abbrev m_M_reachSection : Nat := 284
abbrev m_M_reachSites : Nat := 285
abbrev m_M_lay : Nat := 286
abbrev m_M_stays : Nat := 287
abbrev m_M_group : Nat := 288
abbrev m_M_findPool : Nat := 289
abbrev m_M_isStrings : Nat := 290
abbrev m_M_nodeOf : Nat := 291
abbrev m_M_childOf : Nat := 292
abbrev m_M_toPool : Nat := 293
abbrev m_M_findSlots : Nat := 294
abbrev m_M_isShort : Nat := 295
abbrev m_M_shortKind : Nat := 296
abbrev m_M_isInside : Nat := 297
abbrev m_M_isSectionNow : Nat := 298
abbrev m_M_slotOf : Nat := 299
abbrev m_M_layout : Nat := 300
abbrev m_M_findSegments : Nat := 301
abbrev m_M_segmentOf : Nat := 302
abbrev m_M_isCommon : Nat := 303
abbrev m_M_isThreaded : Nat := 304
abbrev m_M_placeSegment : Nat := 305
abbrev m_M_up : Nat := 306
abbrev m_M_placeGroup : Nat := 307
abbrev m_M_placeStrings : Nat := 308
abbrev m_M_byteAddress : Nat := 309
abbrev m_M_placeCommons : Nat := 310
abbrev m_M_findTemplate : Nat := 311
abbrev m_M_ownAddress : Nat := 312
abbrev m_M_own : Nat := 313
abbrev m_M_sites : Nat := 314
abbrev m_M_one : Nat := 315
abbrev m_M_siteValue : Nat := 316
abbrev m_M_symbolAddress : Nat := 317
abbrev m_M_siteAddress : Nat := 318
abbrev m_M_isOfStrings : Nat := 319
abbrev m_M_fillSite : Nat := 320
abbrev m_M_put : Nat := 321
abbrev m_M_runsOver : Nat := 322
abbrev m_M_write : Nat := 323
abbrev m_M_keepLink : Nat := 324
abbrev m_M_named : Nat := 325
abbrev m_M_wider : Nat := 326
abbrev m_M_numberOf : Nat := 327
abbrev m_M_namedSegment : Nat := 328
abbrev m_M_cause : Nat := 329
abbrev m_M_sum : Nat := 330
abbrev m_M_merge : Nat := 331
abbrev m_M_merges : Nat := 332
abbrev m_M_countParts : Nat := 333
abbrev m_M_part : Nat := 334
abbrev m_M_countSymbols : Nat := 335
abbrev m_M_numberName : Nat := 336
abbrev m_M_mergedRow : Nat := 337
abbrev m_M_placeOf : Nat := 338
abbrev m_M_partSize : Nat := 339
abbrev m_M_isPart : Nat := 340
abbrev m_M_textMany : Nat := 341
abbrev m_M_mergedSites : Nat := 342
abbrev m_M_mergedRows : Nat := 343
abbrev m_M_mergedSection : Nat := 344
abbrev m_M_mergedLocals : Nat := 345
abbrev m_M_mergedSymbol : Nat := 346
abbrev m_M_mergedNames : Nat := 347
abbrev m_M_mergedDefinition : Nat := 348
abbrev m_M_pack : Nat := 349
abbrev m_M_findObjects : Nat := 350
abbrev m_M_isDefining : Nat := 351
abbrev m_M_ahead : Nat := 352
abbrev m_M_digits : Nat := 353
abbrev m_M_highFirst : Nat := 354
abbrev m_M_list : Nat := 355
abbrev m_M_sixteen : Nat := 356
abbrev m_M_letterOf : Nat := 357
abbrev m_M_map : Nat := 358
abbrev m_M_wide : Nat := 359
abbrev m_M_sayNumber : Nat := 360
abbrev m_M_boot : Nat := 361
abbrev m_M_triedError : Nat := 362
abbrev m_M_isExecutable : Nat := 363
abbrev m_M_triedNum : Nat := 364
abbrev m_M_rowError : Nat := 365
abbrev m_M_findMemoryNames : Nat := 366
abbrev m_M_memorySymbol : Nat := 367
abbrev m_M_near : Nat := 368
abbrev m_M_rowOf : Nat := 369
abbrev m_M_peek : Nat := 370
abbrev m_M_flags : Nat := 371
abbrev m_M_address : Nat := 372
abbrev m_M_taken : Nat := 373
abbrev m_M_section : Nat := 374
abbrev m_M_place : Nat := 375
abbrev m_M_out : Nat := 376
abbrev m_M_look : Nat := 377
abbrev m_Arrays_fill : Nat := 378
abbrev m_Arrays_rangeCheck : Nat := 379
abbrev m_Arrays_fill_2 : Nat := 380
abbrev m_Arrays_fill_3 : Nat := 381
abbrev m_L_feed : Nat := 382
abbrev m_L_add : Nat := 383
abbrev m_L_drop : Nat := 384
abbrev m_L_give : Nat := 385
abbrev m_L_wish : Nat := 386
abbrev m_L_named : Nat := 387
abbrev m_L_list : Nat := 388
abbrev m_L_sum : Nat := 389
abbrev m_L_map : Nat := 390
abbrev m_L_address : Nat := 391
abbrev m_L_taken : Nat := 392
abbrev m_L_cause : Nat := 393
abbrev m_L_section : Nat := 394
abbrev m_L_place : Nat := 395
abbrev m_L_out : Nat := 396
abbrev m_L_look : Nat := 397
abbrev m_L_law : Nat := 398
set_option maxRecDepth 1000000 in
theorem pg_w0 : tables_1[35]? = some (.code (pg_mn 0) (pg_by 0) (pg_ml 0) (pg_rt 0)) := by rfl
set_option maxRecDepth 1000000 in
theorem pg_w1 : tables_1[799]? = some (.code (pg_mn 1) (pg_by 1) (pg_ml 1) (pg_rt 1)) := by rfl
set_option maxRecDepth 1000000 in
theorem pg_w2 : tables_1[803]? = some (.code (pg_mn 2) (pg_by 2) (pg_ml 2) (pg_rt 2)) := by rfl
set_option maxRecDepth 1000000 in
theorem pg_w3 : tables_1[1388]? = some (.code (pg_mn 3) (pg_by 3) (pg_ml 3) (pg_rt 3)) := by rfl
set_option maxRecDepth 1000000 in
theorem pg_w4 : tables_1[1518]? = some (.code (pg_mn 4) (pg_by 4) (pg_ml 4) (pg_rt 4)) := by rfl
set_option maxRecDepth 1000000 in
theorem pg_w5 : tables_1[1571]? = some (.code (pg_mn 5) (pg_by 5) (pg_ml 5) (pg_rt 5)) := by rfl
set_option maxRecDepth 1000000 in
theorem pg_w6 : tables_1[1672]? = some (.code (pg_mn 6) (pg_by 6) (pg_ml 6) (pg_rt 6)) := by rfl
set_option maxRecDepth 1000000 in
theorem pg_w7 : tables_1[1676]? = some (.code (pg_mn 7) (pg_by 7) (pg_ml 7) (pg_rt 7)) := by rfl
set_option maxRecDepth 1000000 in
theorem pg_w8 : tables_1[1680]? = some (.code (pg_mn 8) (pg_by 8) (pg_ml 8) (pg_rt 8)) := by rfl
set_option maxRecDepth 1000000 in
theorem pg_w9 : tables_1[1721]? = some (.code (pg_mn 9) (pg_by 9) (pg_ml 9) (pg_rt 9)) := by rfl
set_option maxRecDepth 1000000 in
theorem pg_w10 : tables_1[1728]? = some (.code (pg_mn 10) (pg_by 10) (pg_ml 10) (pg_rt 10)) := by rfl
set_option maxRecDepth 1000000 in
theorem pg_w11 : tables_1[1762]? = some (.code (pg_mn 11) (pg_by 11) (pg_ml 11) (pg_rt 11)) := by rfl
set_option maxRecDepth 1000000 in
theorem pg_w12 : tables_1[1802]? = some (.code (pg_mn 12) (pg_by 12) (pg_ml 12) (pg_rt 12)) := by rfl
set_option maxRecDepth 1000000 in
theorem pg_w13 : tables_1[1811]? = some (.code (pg_mn 13) (pg_by 13) (pg_ml 13) (pg_rt 13)) := by rfl
set_option maxRecDepth 1000000 in
theorem pg_w14 : tables_1[1825]? = some (.code (pg_mn 14) (pg_by 14) (pg_ml 14) (pg_rt 14)) := by rfl
set_option maxRecDepth 1000000 in
theorem pg_w15 : tables_1[1852]? = some (.code (pg_mn 15) (pg_by 15) (pg_ml 15) (pg_rt 15)) := by rfl
set_option maxRecDepth 1000000 in
theorem pg_w16 : tables_1[1857]? = some (.code (pg_mn 16) (pg_by 16) (pg_ml 16) (pg_rt 16)) := by rfl
set_option maxRecDepth 1000000 in
theorem pg_w17 : tables_1[1863]? = some (.code (pg_mn 17) (pg_by 17) (pg_ml 17) (pg_rt 17)) := by rfl
set_option maxRecDepth 1000000 in
theorem pg_w18 : tables_1[1867]? = some (.code (pg_mn 18) (pg_by 18) (pg_ml 18) (pg_rt 18)) := by rfl
set_option maxRecDepth 1000000 in
theorem pg_w19 : tables_1[1912]? = some (.code (pg_mn 19) (pg_by 19) (pg_ml 19) (pg_rt 19)) := by rfl
set_option maxRecDepth 1000000 in
theorem pg_w20 : tables_1[1968]? = some (.code (pg_mn 20) (pg_by 20) (pg_ml 20) (pg_rt 20)) := by rfl
set_option maxRecDepth 1000000 in
theorem pg_w21 : tables_1[1975]? = some (.code (pg_mn 21) (pg_by 21) (pg_ml 21) (pg_rt 21)) := by rfl
set_option maxRecDepth 1000000 in
theorem pg_w22 : tables_1[1983]? = some (.code (pg_mn 22) (pg_by 22) (pg_ml 22) (pg_rt 22)) := by rfl
set_option maxRecDepth 1000000 in
theorem pg_w23 : tables_1[1987]? = some (.code (pg_mn 23) (pg_by 23) (pg_ml 23) (pg_rt 23)) := by rfl
set_option maxRecDepth 1000000 in
theorem pg_w24 : tables_1[2000]? = some (.code (pg_mn 24) (pg_by 24) (pg_ml 24) (pg_rt 24)) := by rfl
set_option maxRecDepth 1000000 in
theorem pg_w25 : tables_1[2008]? = some (.code (pg_mn 25) (pg_by 25) (pg_ml 25) (pg_rt 25)) := by rfl
set_option maxRecDepth 1000000 in
theorem pg_w26 : tables_1[2035]? = some (.code (pg_mn 26) (pg_by 26) (pg_ml 26) (pg_rt 26)) := by rfl
set_option maxRecDepth 1000000 in
theorem pg_w27 : tables_1[2039]? = some (.code (pg_mn 27) (pg_by 27) (pg_ml 27) (pg_rt 27)) := by rfl
set_option maxRecDepth 1000000 in
theorem pg_w28 : tables_1[2043]? = some (.code (pg_mn 28) (pg_by 28) (pg_ml 28) (pg_rt 28)) := by rfl
set_option maxRecDepth 1000000 in
theorem pg_w29 : tables_1[2083]? = some (.code (pg_mn 29) (pg_by 29) (pg_ml 29) (pg_rt 29)) := by rfl
set_option maxRecDepth 1000000 in
theorem pg_w30 : tables_1[2093]? = some (.code (pg_mn 30) (pg_by 30) (pg_ml 30) (pg_rt 30)) := by rfl
set_option maxRecDepth 1000000 in
theorem pg_w31 : tables_1[2106]? = some (.code (pg_mn 31) (pg_by 31) (pg_ml 31) (pg_rt 31)) := by rfl
set_option maxRecDepth 1000000 in
theorem pg_w32 : tables_1[2113]? = some (.code (pg_mn 32) (pg_by 32) (pg_ml 32) (pg_rt 32)) := by rfl
set_option maxRecDepth 1000000 in
theorem pg_w33 : tables_1[2121]? = some (.code (pg_mn 33) (pg_by 33) (pg_ml 33) (pg_rt 33)) := by rfl
set_option maxRecDepth 1000000 in
theorem pg_w34 : tables_1[2129]? = some (.code (pg_mn 34) (pg_by 34) (pg_ml 34) (pg_rt 34)) := by rfl
set_option maxRecDepth 1000000 in
theorem pg_w35 : tables_1[2138]? = some (.code (pg_mn 35) (pg_by 35) (pg_ml 35) (pg_rt 35)) := by rfl
set_option maxRecDepth 1000000 in
theorem pg_w36 : tables_1[2146]? = some (.code (pg_mn 36) (pg_by 36) (pg_ml 36) (pg_rt 36)) := by rfl
set_option maxRecDepth 1000000 in
theorem pg_w37 : tables_1[2154]? = some (.code (pg_mn 37) (pg_by 37) (pg_ml 37) (pg_rt 37)) := by rfl
set_option maxRecDepth 1000000 in
theorem pg_w38 : tables_1[2159]? = some (.code (pg_mn 38) (pg_by 38) (pg_ml 38) (pg_rt 38)) := by rfl
set_option maxRecDepth 1000000 in
theorem pg_w39 : tables_1[629]? = some (.code (pg_mn 39) (pg_by 39) (pg_ml 39) (pg_rt 39)) := by rfl
set_option maxRecDepth 1000000 in
theorem pg_w40 : tables_1[1431]? = some (.code (pg_mn 40) (pg_by 40) (pg_ml 40) (pg_rt 40)) := by rfl
set_option maxRecDepth 1000000 in
theorem pg_w41 : tables_1[1435]? = some (.code (pg_mn 41) (pg_by 41) (pg_ml 41) (pg_rt 41)) := by rfl
set_option maxRecDepth 1000000 in
theorem pg_w42 : tables_1[1474]? = some (.code (pg_mn 42) (pg_by 42) (pg_ml 42) (pg_rt 42)) := by rfl
set_option maxRecDepth 1000000 in
theorem pg_w43 : tables_1[1479]? = some (.code (pg_mn 43) (pg_by 43) (pg_ml 43) (pg_rt 43)) := by rfl
set_option maxRecDepth 1000000 in
theorem pg_w44 : tables_1[1506]? = some (.code (pg_mn 44) (pg_by 44) (pg_ml 44) (pg_rt 44)) := by rfl
set_option maxRecDepth 1000000 in
theorem pg_w45 : tables_1[1514]? = some (.code (pg_mn 45) (pg_by 45) (pg_ml 45) (pg_rt 45)) := by rfl
set_option maxRecDepth 1000000 in
theorem pg_w46 : tables_1[1532]? = some (.code (pg_mn 46) (pg_by 46) (pg_ml 46) (pg_rt 46)) := by rfl
set_option maxRecDepth 1000000 in
theorem pg_w47 : tables_1[1543]? = some (.code (pg_mn 47) (pg_by 47) (pg_ml 47) (pg_rt 47)) := by rfl
set_option maxRecDepth 1000000 in
theorem pg_w48 : tables_1[1549]? = some (.code (pg_mn 48) (pg_by 48) (pg_ml 48) (pg_rt 48)) := by rfl
set_option maxRecDepth 1000000 in
theorem pg_w49 : tables_1[542]? = some (.code (pg_mn 49) (pg_by 49) (pg_ml 49) (pg_rt 49)) := by rfl
set_option maxRecDepth 1000000 in
theorem pg_w50 : tables_1[1011]? = some (.code (pg_mn 50) (pg_by 50) (pg_ml 50) (pg_rt 50)) := by rfl
set_option maxRecDepth 1000000 in
theorem pg_w51 : tables_1[1015]? = some (.code (pg_mn 51) (pg_by 51) (pg_ml 51) (pg_rt 51)) := by rfl
set_option maxRecDepth 1000000 in
theorem pg_w52 : tables_1[1039]? = some (.code (pg_mn 52) (pg_by 52) (pg_ml 52) (pg_rt 52)) := by rfl
set_option maxRecDepth 1000000 in
theorem pg_w53 : tables_1[1338]? = some (.code (pg_mn 53) (pg_by 53) (pg_ml 53) (pg_rt 53)) := by rfl
set_option maxRecDepth 1000000 in
theorem pg_w54 : tables_1[1349]? = some (.code (pg_mn 54) (pg_by 54) (pg_ml 54) (pg_rt 54)) := by rfl
set_option maxRecDepth 1000000 in
theorem pg_w55 : tables_1[1354]? = some (.code (pg_mn 55) (pg_by 55) (pg_ml 55) (pg_rt 55)) := by rfl
set_option maxRecDepth 1000000 in
theorem pg_w56 : tables_1[1358]? = some (.code (pg_mn 56) (pg_by 56) (pg_ml 56) (pg_rt 56)) := by rfl
set_option maxRecDepth 1000000 in
theorem pg_w57 : tables_1[1365]? = some (.code (pg_mn 57) (pg_by 57) (pg_ml 57) (pg_rt 57)) := by rfl
set_option maxRecDepth 1000000 in
theorem pg_w58 : tables_1[1369]? = some (.code (pg_mn 58) (pg_by 58) (pg_ml 58) (pg_rt 58)) := by rfl
set_option maxRecDepth 1000000 in
theorem pg_w59 : tables_1[1375]? = some (.code (pg_mn 59) (pg_by 59) (pg_ml 59) (pg_rt 59)) := by rfl
set_option maxRecDepth 1000000 in
theorem pg_w60 : tables_1[1379]? = some (.code (pg_mn 60) (pg_by 60) (pg_ml 60) (pg_rt 60)) := by rfl
set_option maxRecDepth 1000000 in
theorem pg_w61 : tables_1[1383]? = some (.code (pg_mn 61) (pg_by 61) (pg_ml 61) (pg_rt 61)) := by rfl
set_option maxRecDepth 1000000 in
theorem pg_w62 : tables_1[1394]? = some (.code (pg_mn 62) (pg_by 62) (pg_ml 62) (pg_rt 62)) := by rfl
set_option maxRecDepth 1000000 in
theorem pg_w63 : tables_1[1398]? = some (.code (pg_mn 63) (pg_by 63) (pg_ml 63) (pg_rt 63)) := by rfl
set_option maxRecDepth 1000000 in
theorem pg_w64 : tables_1[1402]? = some (.code (pg_mn 64) (pg_by 64) (pg_ml 64) (pg_rt 64)) := by rfl
set_option maxRecDepth 1000000 in
theorem pg_w65 : tables_1[1406]? = some (.code (pg_mn 65) (pg_by 65) (pg_ml 65) (pg_rt 65)) := by rfl
set_option maxRecDepth 1000000 in
theorem pg_w66 : tables_1[1418]? = some (.code (pg_mn 66) (pg_by 66) (pg_ml 66) (pg_rt 66)) := by rfl
set_option maxRecDepth 1000000 in
theorem pg_w67 : tables_1[1422]? = some (.code (pg_mn 67) (pg_by 67) (pg_ml 67) (pg_rt 67)) := by rfl
set_option maxRecDepth 1000000 in
theorem pg_w68 : tables_1[1426]? = some (.code (pg_mn 68) (pg_by 68) (pg_ml 68) (pg_rt 68)) := by rfl
set_option maxRecDepth 1000000 in
theorem pg_w69 : tables_1[1489]? = some (.code (pg_mn 69) (pg_by 69) (pg_ml 69) (pg_rt 69)) := by rfl
set_option maxRecDepth 1000000 in
theorem pg_w70 : tables_1[1493]? = some (.code (pg_mn 70) (pg_by 70) (pg_ml 70) (pg_rt 70)) := by rfl
set_option maxRecDepth 1000000 in
theorem pg_w71 : tables_1[277]? = some (.code (pg_mn 71) (pg_by 71) (pg_ml 71) (pg_rt 71)) := by rfl
set_option maxRecDepth 1000000 in
theorem pg_w72 : tables_1[807]? = some (.code (pg_mn 72) (pg_by 72) (pg_ml 72) (pg_rt 72)) := by rfl
set_option maxRecDepth 1000000 in
theorem pg_w73 : tables_1[811]? = some (.code (pg_mn 73) (pg_by 73) (pg_ml 73) (pg_rt 73)) := by rfl
set_option maxRecDepth 1000000 in
theorem pg_w74 : tables_1[831]? = some (.code (pg_mn 74) (pg_by 74) (pg_ml 74) (pg_rt 74)) := by rfl
set_option maxRecDepth 1000000 in
theorem pg_w75 : tables_1[835]? = some (.code (pg_mn 75) (pg_by 75) (pg_ml 75) (pg_rt 75)) := by rfl
set_option maxRecDepth 1000000 in
theorem pg_w76 : tables_1[839]? = some (.code (pg_mn 76) (pg_by 76) (pg_ml 76) (pg_rt 76)) := by rfl
set_option maxRecDepth 1000000 in
theorem pg_w77 : tables_1[843]? = some (.code (pg_mn 77) (pg_by 77) (pg_ml 77) (pg_rt 77)) := by rfl
set_option maxRecDepth 1000000 in
theorem pg_w78 : tables_1[874]? = some (.code (pg_mn 78) (pg_by 78) (pg_ml 78) (pg_rt 78)) := by rfl
set_option maxRecDepth 1000000 in
theorem pg_w79 : tables_1[894]? = some (.code (pg_mn 79) (pg_by 79) (pg_ml 79) (pg_rt 79)) := by rfl
set_option maxRecDepth 1000000 in
theorem pg_w80 : tables_1[908]? = some (.code (pg_mn 80) (pg_by 80) (pg_ml 80) (pg_rt 80)) := by rfl
set_option maxRecDepth 1000000 in
theorem pg_w81 : tables_1[912]? = some (.code (pg_mn 81) (pg_by 81) (pg_ml 81) (pg_rt 81)) := by rfl
set_option maxRecDepth 1000000 in
theorem pg_w82 : tables_1[916]? = some (.code (pg_mn 82) (pg_by 82) (pg_ml 82) (pg_rt 82)) := by rfl
set_option maxRecDepth 1000000 in
theorem pg_w83 : tables_1[924]? = some (.code (pg_mn 83) (pg_by 83) (pg_ml 83) (pg_rt 83)) := by rfl
set_option maxRecDepth 1000000 in
theorem pg_w84 : tables_1[930]? = some (.code (pg_mn 84) (pg_by 84) (pg_ml 84) (pg_rt 84)) := by rfl
set_option maxRecDepth 1000000 in
theorem pg_w85 : tables_1[934]? = some (.code (pg_mn 85) (pg_by 85) (pg_ml 85) (pg_rt 85)) := by rfl
set_option maxRecDepth 1000000 in
theorem pg_w86 : tables_1[944]? = some (.code (pg_mn 86) (pg_by 86) (pg_ml 86) (pg_rt 86)) := by rfl
set_option maxRecDepth 1000000 in
theorem pg_w87 : tables_1[953]? = some (.code (pg_mn 87) (pg_by 87) (pg_ml 87) (pg_rt 87)) := by rfl
set_option maxRecDepth 1000000 in
theorem pg_w88 : tables_1[960]? = some (.code (pg_mn 88) (pg_by 88) (pg_ml 88) (pg_rt 88)) := by rfl
set_option maxRecDepth 1000000 in
theorem pg_w89 : tables_1[964]? = some (.code (pg_mn 89) (pg_by 89) (pg_ml 89) (pg_rt 89)) := by rfl
set_option maxRecDepth 1000000 in
theorem pg_w90 : tables_1[968]? = some (.code (pg_mn 90) (pg_by 90) (pg_ml 90) (pg_rt 90)) := by rfl
set_option maxRecDepth 1000000 in
theorem pg_w91 : tables_1[972]? = some (.code (pg_mn 91) (pg_by 91) (pg_ml 91) (pg_rt 91)) := by rfl
set_option maxRecDepth 1000000 in
theorem pg_w92 : tables_1[976]? = some (.code (pg_mn 92) (pg_by 92) (pg_ml 92) (pg_rt 92)) := by rfl
set_option maxRecDepth 1000000 in
theorem pg_w93 : tables_1[980]? = some (.code (pg_mn 93) (pg_by 93) (pg_ml 93) (pg_rt 93)) := by rfl
set_option maxRecDepth 1000000 in
theorem pg_w94 : tables_1[984]? = some (.code (pg_mn 94) (pg_by 94) (pg_ml 94) (pg_rt 94)) := by rfl
set_option maxRecDepth 1000000 in
theorem pg_w95 : tables_1[1002]? = some (.code (pg_mn 95) (pg_by 95) (pg_ml 95) (pg_rt 95)) := by rfl
set_option maxRecDepth 1000000 in
theorem pg_w96 : tables_1[1006]? = some (.code (pg_mn 96) (pg_by 96) (pg_ml 96) (pg_rt 96)) := by rfl
set_option maxRecDepth 1000000 in
theorem pg_w97 : tables_1[1332]? = some (.code (pg_mn 97) (pg_by 97) (pg_ml 97) (pg_rt 97)) := by rfl
set_option maxRecDepth 1000000 in
theorem pg_w98 : tables_1[1343]? = some (.code (pg_mn 98) (pg_by 98) (pg_ml 98) (pg_rt 98)) := by rfl
set_option maxRecDepth 1000000 in
theorem pg_w99 : tables_1[2163]? = some (.code (pg_mn 99) (pg_by 99) (pg_ml 99) (pg_rt 99)) := by rfl
set_option maxRecDepth 1000000 in
theorem pg_w100 : tables_1[692]? = some (.code (pg_mn 100) (pg_by 100) (pg_ml 100) (pg_rt 100)) := by rfl
set_option maxRecDepth 1000000 in
theorem pg_w101 : tables_1[1725]? = some (.code (pg_mn 101) (pg_by 101) (pg_ml 101) (pg_rt 101)) := by rfl
set_option maxRecDepth 1000000 in
theorem pg_w102 : tables_1[1733]? = some (.code (pg_mn 102) (pg_by 102) (pg_ml 102) (pg_rt 102)) := by rfl
set_option maxRecDepth 1000000 in
theorem pg_w103 : tables_1[1737]? = some (.code (pg_mn 103) (pg_by 103) (pg_ml 103) (pg_rt 103)) := by rfl
set_option maxRecDepth 1000000 in
theorem pg_w104 : tables_1[1746]? = some (.code (pg_mn 104) (pg_by 104) (pg_ml 104) (pg_rt 104)) := by rfl
set_option maxRecDepth 1000000 in
theorem pg_w105 : tables_1[1756]? = some (.code (pg_mn 105) (pg_by 105) (pg_ml 105) (pg_rt 105)) := by rfl
set_option maxRecDepth 1000000 in
theorem pg_w106 : tables_1[1766]? = some (.code (pg_mn 106) (pg_by 106) (pg_ml 106) (pg_rt 106)) := by rfl
set_option maxRecDepth 1000000 in
theorem pg_w107 : tables_1[1782]? = some (.code (pg_mn 107) (pg_by 107) (pg_ml 107) (pg_rt 107)) := by rfl
set_option maxRecDepth 1000000 in
theorem pg_w108 : tables_1[1788]? = some (.code (pg_mn 108) (pg_by 108) (pg_ml 108) (pg_rt 108)) := by rfl
set_option maxRecDepth 1000000 in
theorem pg_w109 : tables_1[1794]? = some (.code (pg_mn 109) (pg_by 109) (pg_ml 109) (pg_rt 109)) := by rfl
set_option maxRecDepth 1000000 in
theorem pg_w110 : tables_1[1806]? = some (.code (pg_mn 110) (pg_by 110) (pg_ml 110) (pg_rt 110)) := by rfl
set_option maxRecDepth 1000000 in
theorem pg_w111 : tables_1[1815]? = some (.code (pg_mn 111) (pg_by 111) (pg_ml 111) (pg_rt 111)) := by rfl
set_option maxRecDepth 1000000 in
theorem pg_w112 : tables_1[164]? = some (.code (pg_mn 112) (pg_by 112) (pg_ml 112) (pg_rt 112)) := by rfl
set_option maxRecDepth 1000000 in
theorem pg_w113 : tables_1[369]? = some (.code (pg_mn 113) (pg_by 113) (pg_ml 113) (pg_rt 113)) := by rfl
set_option maxRecDepth 1000000 in
theorem pg_w114 : tables_1[373]? = some (.code (pg_mn 114) (pg_by 114) (pg_ml 114) (pg_rt 114)) := by rfl
set_option maxRecDepth 1000000 in
theorem pg_w115 : tables_1[425]? = some (.code (pg_mn 115) (pg_by 115) (pg_ml 115) (pg_rt 115)) := by rfl
set_option maxRecDepth 1000000 in
theorem pg_w116 : tables_1[827]? = some (.code (pg_mn 116) (pg_by 116) (pg_ml 116) (pg_rt 116)) := by rfl
set_option maxRecDepth 1000000 in
theorem pg_w117 : tables_1[886]? = some (.code (pg_mn 117) (pg_by 117) (pg_ml 117) (pg_rt 117)) := by rfl
set_option maxRecDepth 1000000 in
theorem pg_w118 : tables_1[948]? = some (.code (pg_mn 118) (pg_by 118) (pg_ml 118) (pg_rt 118)) := by rfl
set_option maxRecDepth 1000000 in
theorem pg_w119 : tables_1[1566]? = some (.code (pg_mn 119) (pg_by 119) (pg_ml 119) (pg_rt 119)) := by rfl
set_option maxRecDepth 1000000 in
theorem pg_w120 : tables_1[1657]? = some (.code (pg_mn 120) (pg_by 120) (pg_ml 120) (pg_rt 120)) := by rfl
set_option maxRecDepth 1000000 in
theorem pg_w121 : tables_1[156]? = some (.code (pg_mn 121) (pg_by 121) (pg_ml 121) (pg_rt 121)) := by rfl
set_option maxRecDepth 1000000 in
theorem pg_w122 : tables_1[815]? = some (.code (pg_mn 122) (pg_by 122) (pg_ml 122) (pg_rt 122)) := by rfl
set_option maxRecDepth 1000000 in
theorem pg_w123 : tables_1[819]? = some (.code (pg_mn 123) (pg_by 123) (pg_ml 123) (pg_rt 123)) := by rfl
set_option maxRecDepth 1000000 in
theorem pg_w124 : tables_1[823]? = some (.code (pg_mn 124) (pg_by 124) (pg_ml 124) (pg_rt 124)) := by rfl
set_option maxRecDepth 1000000 in
theorem pg_w125 : tables_1[75]? = some (.code (pg_mn 125) (pg_by 125) (pg_ml 125) (pg_rt 125)) := by rfl
set_option maxRecDepth 1000000 in
theorem pg_w126 : tables_1[847]? = some (.code (pg_mn 126) (pg_by 126) (pg_ml 126) (pg_rt 126)) := by rfl
set_option maxRecDepth 1000000 in
theorem pg_w127 : tables_1[851]? = some (.code (pg_mn 127) (pg_by 127) (pg_ml 127) (pg_rt 127)) := by rfl
set_option maxRecDepth 1000000 in
theorem pg_w128 : tables_1[855]? = some (.code (pg_mn 128) (pg_by 128) (pg_ml 128) (pg_rt 128)) := by rfl
set_option maxRecDepth 1000000 in
theorem pg_w129 : tables_1[859]? = some (.code (pg_mn 129) (pg_by 129) (pg_ml 129) (pg_rt 129)) := by rfl
set_option maxRecDepth 1000000 in
theorem pg_w130 : tables_1[866]? = some (.code (pg_mn 130) (pg_by 130) (pg_ml 130) (pg_rt 130)) := by rfl
set_option maxRecDepth 1000000 in
theorem pg_w131 : tables_1[870]? = some (.code (pg_mn 131) (pg_by 131) (pg_ml 131) (pg_rt 131)) := by rfl
set_option maxRecDepth 1000000 in
theorem pg_w132 : tables_1[878]? = some (.code (pg_mn 132) (pg_by 132) (pg_ml 132) (pg_rt 132)) := by rfl
set_option maxRecDepth 1000000 in
theorem pg_w133 : tables_1[882]? = some (.code (pg_mn 133) (pg_by 133) (pg_ml 133) (pg_rt 133)) := by rfl
set_option maxRecDepth 1000000 in
theorem pg_w134 : tables_1[898]? = some (.code (pg_mn 134) (pg_by 134) (pg_ml 134) (pg_rt 134)) := by rfl
set_option maxRecDepth 1000000 in
theorem pg_w135 : tables_1[904]? = some (.code (pg_mn 135) (pg_by 135) (pg_ml 135) (pg_rt 135)) := by rfl
set_option maxRecDepth 1000000 in
theorem pg_w136 : tables_1[920]? = some (.code (pg_mn 136) (pg_by 136) (pg_ml 136) (pg_rt 136)) := by rfl
set_option maxRecDepth 1000000 in
theorem pg_w137 : tables_1[938]? = some (.code (pg_mn 137) (pg_by 137) (pg_ml 137) (pg_rt 137)) := by rfl
set_option maxRecDepth 1000000 in
theorem pg_w138 : tables_1[988]? = some (.code (pg_mn 138) (pg_by 138) (pg_ml 138) (pg_rt 138)) := by rfl
set_option maxRecDepth 1000000 in
theorem pg_w139 : tables_1[996]? = some (.code (pg_mn 139) (pg_by 139) (pg_ml 139) (pg_rt 139)) := by rfl
set_option maxRecDepth 1000000 in
theorem pg_w140 : tables_1[1498]? = some (.code (pg_mn 140) (pg_by 140) (pg_ml 140) (pg_rt 140)) := by rfl
set_option maxRecDepth 1000000 in
theorem pg_w141 : tables_1[1554]? = some (.code (pg_mn 141) (pg_by 141) (pg_ml 141) (pg_rt 141)) := by rfl
set_option maxRecDepth 1000000 in
theorem pg_w142 : tables_1[1606]? = some (.code (pg_mn 142) (pg_by 142) (pg_ml 142) (pg_rt 142)) := by rfl
set_option maxRecDepth 1000000 in
theorem pg_w143 : tables_1[1876]? = some (.code (pg_mn 143) (pg_by 143) (pg_ml 143) (pg_rt 143)) := by rfl
set_option maxRecDepth 1000000 in
theorem pg_w144 : tables_1[1880]? = some (.code (pg_mn 144) (pg_by 144) (pg_ml 144) (pg_rt 144)) := by rfl
set_option maxRecDepth 1000000 in
theorem pg_w145 : tables_1[1884]? = some (.code (pg_mn 145) (pg_by 145) (pg_ml 145) (pg_rt 145)) := by rfl
set_option maxRecDepth 1000000 in
theorem pg_w146 : tables_1[1891]? = some (.code (pg_mn 146) (pg_by 146) (pg_ml 146) (pg_rt 146)) := by rfl
set_option maxRecDepth 1000000 in
theorem pg_w147 : tables_1[1895]? = some (.code (pg_mn 147) (pg_by 147) (pg_ml 147) (pg_rt 147)) := by rfl
set_option maxRecDepth 1000000 in
theorem pg_w148 : tables_1[1900]? = some (.code (pg_mn 148) (pg_by 148) (pg_ml 148) (pg_rt 148)) := by rfl
set_option maxRecDepth 1000000 in
theorem pg_w149 : tables_1[1906]? = some (.code (pg_mn 149) (pg_by 149) (pg_ml 149) (pg_rt 149)) := by rfl
set_option maxRecDepth 1000000 in
theorem pg_w150 : tables_1[1918]? = some (.code (pg_mn 150) (pg_by 150) (pg_ml 150) (pg_rt 150)) := by rfl
set_option maxRecDepth 1000000 in
theorem pg_w151 : tables_1[1922]? = some (.code (pg_mn 151) (pg_by 151) (pg_ml 151) (pg_rt 151)) := by rfl
set_option maxRecDepth 1000000 in
theorem pg_w152 : tables_1[1928]? = some (.code (pg_mn 152) (pg_by 152) (pg_ml 152) (pg_rt 152)) := by rfl
set_option maxRecDepth 1000000 in
theorem pg_w153 : tables_1[1934]? = some (.code (pg_mn 153) (pg_by 153) (pg_ml 153) (pg_rt 153)) := by rfl
set_option maxRecDepth 1000000 in
theorem pg_w154 : tables_1[1940]? = some (.code (pg_mn 154) (pg_by 154) (pg_ml 154) (pg_rt 154)) := by rfl
set_option maxRecDepth 1000000 in
theorem pg_w155 : tables_1[1949]? = some (.code (pg_mn 155) (pg_by 155) (pg_ml 155) (pg_rt 155)) := by rfl
set_option maxRecDepth 1000000 in
theorem pg_w156 : tables_1[1954]? = some (.code (pg_mn 156) (pg_by 156) (pg_ml 156) (pg_rt 156)) := by rfl
set_option maxRecDepth 1000000 in
theorem pg_w157 : tables_1[1959]? = some (.code (pg_mn 157) (pg_by 157) (pg_ml 157) (pg_rt 157)) := by rfl
set_option maxRecDepth 1000000 in
theorem pg_w158 : tables_1[1963]? = some (.code (pg_mn 158) (pg_by 158) (pg_ml 158) (pg_rt 158)) := by rfl
set_option maxRecDepth 1000000 in
theorem pg_w159 : tables_1[286]? = some (.code (pg_mn 159) (pg_by 159) (pg_ml 159) (pg_rt 159)) := by rfl
set_option maxRecDepth 1000000 in
theorem pg_w160 : tables_1[509]? = some (.code (pg_mn 160) (pg_by 160) (pg_ml 160) (pg_rt 160)) := by rfl
set_option maxRecDepth 1000000 in
theorem pg_w161 : tables_1[1019]? = some (.code (pg_mn 161) (pg_by 161) (pg_ml 161) (pg_rt 161)) := by rfl
set_option maxRecDepth 1000000 in
theorem pg_w162 : tables_1[1026]? = some (.code (pg_mn 162) (pg_by 162) (pg_ml 162) (pg_rt 162)) := by rfl
set_option maxRecDepth 1000000 in
theorem pg_w163 : tables_1[1031]? = some (.code (pg_mn 163) (pg_by 163) (pg_ml 163) (pg_rt 163)) := by rfl
set_option maxRecDepth 1000000 in
theorem pg_w164 : tables_1[1035]? = some (.code (pg_mn 164) (pg_by 164) (pg_ml 164) (pg_rt 164)) := by rfl
set_option maxRecDepth 1000000 in
theorem pg_w165 : tables_1[1413]? = some (.code (pg_mn 165) (pg_by 165) (pg_ml 165) (pg_rt 165)) := by rfl
set_option maxRecDepth 1000000 in
theorem pg_w166 : tables_1[43]? = some (.code (pg_mn 166) (pg_by 166) (pg_ml 166) (pg_rt 166)) := by rfl
set_option maxRecDepth 1000000 in
theorem pg_w167 : tables_1[890]? = some (.code (pg_mn 167) (pg_by 167) (pg_ml 167) (pg_rt 167)) := by rfl
set_option maxRecDepth 1000000 in
theorem pg_w168 : tables_1[1440]? = some (.code (pg_mn 168) (pg_by 168) (pg_ml 168) (pg_rt 168)) := by rfl
set_option maxRecDepth 1000000 in
theorem pg_w169 : tables_1[1446]? = some (.code (pg_mn 169) (pg_by 169) (pg_ml 169) (pg_rt 169)) := by rfl
set_option maxRecDepth 1000000 in
theorem pg_w170 : tables_1[1450]? = some (.code (pg_mn 170) (pg_by 170) (pg_ml 170) (pg_rt 170)) := by rfl
set_option maxRecDepth 1000000 in
theorem pg_w171 : tables_1[1455]? = some (.code (pg_mn 171) (pg_by 171) (pg_ml 171) (pg_rt 171)) := by rfl
set_option maxRecDepth 1000000 in
theorem pg_w172 : tables_1[1484]? = some (.code (pg_mn 172) (pg_by 172) (pg_ml 172) (pg_rt 172)) := by rfl
set_option maxRecDepth 1000000 in
theorem pg_w173 : tables_1[1502]? = some (.code (pg_mn 173) (pg_by 173) (pg_ml 173) (pg_rt 173)) := by rfl
set_option maxRecDepth 1000000 in
theorem pg_w174 : tables_1[1562]? = some (.code (pg_mn 174) (pg_by 174) (pg_ml 174) (pg_rt 174)) := by rfl
set_option maxRecDepth 1000000 in
theorem pg_w175 : tables_1[1705]? = some (.code (pg_mn 175) (pg_by 175) (pg_ml 175) (pg_rt 175)) := by rfl
set_option maxRecDepth 1000000 in
theorem pg_w176 : tables_1[1711]? = some (.code (pg_mn 176) (pg_by 176) (pg_ml 176) (pg_rt 176)) := by rfl
set_option maxRecDepth 1000000 in
theorem pg_w177 : tables_1[1741]? = some (.code (pg_mn 177) (pg_by 177) (pg_ml 177) (pg_rt 177)) := by rfl
set_option maxRecDepth 1000000 in
theorem pg_w178 : tables_1[1751]? = some (.code (pg_mn 178) (pg_by 178) (pg_ml 178) (pg_rt 178)) := by rfl
set_option maxRecDepth 1000000 in
theorem pg_w179 : tables_1[1771]? = some (.code (pg_mn 179) (pg_by 179) (pg_ml 179) (pg_rt 179)) := by rfl
set_option maxRecDepth 1000000 in
theorem pg_w180 : tables_1[1778]? = some (.code (pg_mn 180) (pg_by 180) (pg_ml 180) (pg_rt 180)) := by rfl
set_option maxRecDepth 1000000 in
theorem pg_w181 : tables_1[2068]? = some (.code (pg_mn 181) (pg_by 181) (pg_ml 181) (pg_rt 181)) := by rfl
set_option maxRecDepth 1000000 in
theorem pg_w182 : tables_1[655]? = some (.code (pg_mn 182) (pg_by 182) (pg_ml 182) (pg_rt 182)) := by rfl
set_option maxRecDepth 1000000 in
theorem pg_w183 : tables_1[1575]? = some (.code (pg_mn 183) (pg_by 183) (pg_ml 183) (pg_rt 183)) := by rfl
set_option maxRecDepth 1000000 in
theorem pg_w184 : tables_1[1579]? = some (.code (pg_mn 184) (pg_by 184) (pg_ml 184) (pg_rt 184)) := by rfl
set_option maxRecDepth 1000000 in
theorem pg_w185 : tables_1[1586]? = some (.code (pg_mn 185) (pg_by 185) (pg_ml 185) (pg_rt 185)) := by rfl
set_option maxRecDepth 1000000 in
theorem pg_w186 : tables_1[1593]? = some (.code (pg_mn 186) (pg_by 186) (pg_ml 186) (pg_rt 186)) := by rfl
set_option maxRecDepth 1000000 in
theorem pg_w187 : tables_1[1601]? = some (.code (pg_mn 187) (pg_by 187) (pg_ml 187) (pg_rt 187)) := by rfl
set_option maxRecDepth 1000000 in
theorem pg_w188 : tables_1[1609]? = some (.code (pg_mn 188) (pg_by 188) (pg_ml 188) (pg_rt 188)) := by rfl
set_option maxRecDepth 1000000 in
theorem pg_w189 : tables_1[1615]? = some (.code (pg_mn 189) (pg_by 189) (pg_ml 189) (pg_rt 189)) := by rfl
set_option maxRecDepth 1000000 in
theorem pg_w190 : tables_1[1621]? = some (.code (pg_mn 190) (pg_by 190) (pg_ml 190) (pg_rt 190)) := by rfl
set_option maxRecDepth 1000000 in
theorem pg_w191 : tables_1[1626]? = some (.code (pg_mn 191) (pg_by 191) (pg_ml 191) (pg_rt 191)) := by rfl
set_option maxRecDepth 1000000 in
theorem pg_w192 : tables_1[1634]? = some (.code (pg_mn 192) (pg_by 192) (pg_ml 192) (pg_rt 192)) := by rfl
set_option maxRecDepth 1000000 in
theorem pg_w193 : tables_1[1638]? = some (.code (pg_mn 193) (pg_by 193) (pg_ml 193) (pg_rt 193)) := by rfl
set_option maxRecDepth 1000000 in
theorem pg_w194 : tables_1[1643]? = some (.code (pg_mn 194) (pg_by 194) (pg_ml 194) (pg_rt 194)) := by rfl
set_option maxRecDepth 1000000 in
theorem pg_w195 : tables_1[1649]? = some (.code (pg_mn 195) (pg_by 195) (pg_ml 195) (pg_rt 195)) := by rfl
set_option maxRecDepth 1000000 in
theorem pg_w196 : tables_1[1653]? = some (.code (pg_mn 196) (pg_by 196) (pg_ml 196) (pg_rt 196)) := by rfl
set_option maxRecDepth 1000000 in
theorem pg_w197 : tables_1[1663]? = some (.code (pg_mn 197) (pg_by 197) (pg_ml 197) (pg_rt 197)) := by rfl
set_option maxRecDepth 1000000 in
theorem pg_w198 : tables_1[1684]? = some (.code (pg_mn 198) (pg_by 198) (pg_ml 198) (pg_rt 198)) := by rfl
set_option maxRecDepth 1000000 in
theorem pg_w199 : tables_1[1687]? = some (.code (pg_mn 199) (pg_by 199) (pg_ml 199) (pg_rt 199)) := by rfl
set_option maxRecDepth 1000000 in
theorem pg_w200 : tables_1[1697]? = some (.code (pg_mn 200) (pg_by 200) (pg_ml 200) (pg_rt 200)) := by rfl
set_option maxRecDepth 1000000 in
theorem pg_w201 : tables_1[1701]? = some (.code (pg_mn 201) (pg_by 201) (pg_ml 201) (pg_rt 201)) := by rfl
set_option maxRecDepth 1000000 in
theorem pg_w202 : tables_1[1716]? = some (.code (pg_mn 202) (pg_by 202) (pg_ml 202) (pg_rt 202)) := by rfl
set_option maxRecDepth 1000000 in
theorem pg_w203 : tables_1[2013]? = some (.code (pg_mn 203) (pg_by 203) (pg_ml 203) (pg_rt 203)) := by rfl
set_option maxRecDepth 1000000 in
theorem pg_w204 : tables_1[2018]? = some (.code (pg_mn 204) (pg_by 204) (pg_ml 204) (pg_rt 204)) := by rfl
set_option maxRecDepth 1000000 in
theorem pg_w205 : tables_1[2023]? = some (.code (pg_mn 205) (pg_by 205) (pg_ml 205) (pg_rt 205)) := by rfl
set_option maxRecDepth 1000000 in
theorem pg_w206 : tables_1[2063]? = some (.code (pg_mn 206) (pg_by 206) (pg_ml 206) (pg_rt 206)) := by rfl
set_option maxRecDepth 1000000 in
theorem pg_w207 : tables_1[2072]? = some (.code (pg_mn 207) (pg_by 207) (pg_ml 207) (pg_rt 207)) := by rfl
set_option maxRecDepth 1000000 in
theorem pg_w208 : tables_1[2097]? = some (.code (pg_mn 208) (pg_by 208) (pg_ml 208) (pg_rt 208)) := by rfl
set_option maxRecDepth 1000000 in
theorem pg_w209 : tables_1[2169]? = some (.code (pg_mn 209) (pg_by 209) (pg_ml 209) (pg_rt 209)) := by rfl
set_option maxRecDepth 1000000 in
theorem pg_w210 : tables_1[2568]? = some (.code (pg_mn 210) (pg_by 210) (pg_ml 210) (pg_rt 210)) := by rfl
set_option maxRecDepth 1000000 in
theorem pg_w211 : tables_1[2572]? = some (.code (pg_mn 211) (pg_by 211) (pg_ml 211) (pg_rt 211)) := by rfl
set_option maxRecDepth 1000000 in
theorem pg_w212 : tables_1[2576]? = some (.code (pg_mn 212) (pg_by 212) (pg_ml 212) (pg_rt 212)) := by rfl
set_option maxRecDepth 1000000 in
theorem pg_w213 : tables_1[2580]? = some (.code (pg_mn 213) (pg_by 213) (pg_ml 213) (pg_rt 213)) := by rfl
set_option maxRecDepth 1000000 in
theorem pg_w214 : tables_1[2584]? = some (.code (pg_mn 214) (pg_by 214) (pg_ml 214) (pg_rt 214)) := by rfl
set_option maxRecDepth 1000000 in
theorem pg_w215 : tables_1[2588]? = some (.code (pg_mn 215) (pg_by 215) (pg_ml 215) (pg_rt 215)) := by rfl
set_option maxRecDepth 1000000 in
theorem pg_w216 : tables_1[2593]? = some (.code (pg_mn 216) (pg_by 216) (pg_ml 216) (pg_rt 216)) := by rfl
set_option maxRecDepth 1000000 in
theorem pg_w217 : tables_1[2597]? = some (.code (pg_mn 217) (pg_by 217) (pg_ml 217) (pg_rt 217)) := by rfl
set_option maxRecDepth 1000000 in
theorem pg_w218 : tables_1[2604]? = some (.code (pg_mn 218) (pg_by 218) (pg_ml 218) (pg_rt 218)) := by rfl
set_option maxRecDepth 1000000 in
theorem pg_w219 : tables_1[2607]? = some (.code (pg_mn 219) (pg_by 219) (pg_ml 219) (pg_rt 219)) := by rfl
set_option maxRecDepth 1000000 in
theorem pg_w220 : tables_1[2611]? = some (.code (pg_mn 220) (pg_by 220) (pg_ml 220) (pg_rt 220)) := by rfl
set_option maxRecDepth 1000000 in
theorem pg_w221 : tables_1[2615]? = some (.code (pg_mn 221) (pg_by 221) (pg_ml 221) (pg_rt 221)) := by rfl
set_option maxRecDepth 1000000 in
theorem pg_w222 : tables_1[2619]? = some (.code (pg_mn 222) (pg_by 222) (pg_ml 222) (pg_rt 222)) := by rfl
set_option maxRecDepth 1000000 in
theorem pg_w223 : tables_1[2624]? = some (.code (pg_mn 223) (pg_by 223) (pg_ml 223) (pg_rt 223)) := by rfl
set_option maxRecDepth 1000000 in
theorem pg_w224 : tables_1[2628]? = some (.code (pg_mn 224) (pg_by 224) (pg_ml 224) (pg_rt 224)) := by rfl
set_option maxRecDepth 1000000 in
theorem pg_w225 : tables_1[2632]? = some (.code (pg_mn 225) (pg_by 225) (pg_ml 225) (pg_rt 225)) := by rfl
set_option maxRecDepth 1000000 in
theorem pg_w226 : tables_1[2636]? = some (.code (pg_mn 226) (pg_by 226) (pg_ml 226) (pg_rt 226)) := by rfl
set_option maxRecDepth 1000000 in
theorem pg_w227 : tables_1[2642]? = some (.code (pg_mn 227) (pg_by 227) (pg_ml 227) (pg_rt 227)) := by rfl
set_option maxRecDepth 1000000 in
theorem pg_w228 : tables_1[2645]? = some (.code (pg_mn 228) (pg_by 228) (pg_ml 228) (pg_rt 228)) := by rfl
set_option maxRecDepth 1000000 in
theorem pg_w229 : tables_1[2650]? = some (.code (pg_mn 229) (pg_by 229) (pg_ml 229) (pg_rt 229)) := by rfl
set_option maxRecDepth 1000000 in
theorem pg_w230 : tables_1[2654]? = some (.code (pg_mn 230) (pg_by 230) (pg_ml 230) (pg_rt 230)) := by rfl
set_option maxRecDepth 1000000 in
theorem pg_w231 : tables_1[2660]? = some (.code (pg_mn 231) (pg_by 231) (pg_ml 231) (pg_rt 231)) := by rfl
set_option maxRecDepth 1000000 in
theorem pg_w232 : tables_1[2665]? = some (.code (pg_mn 232) (pg_by 232) (pg_ml 232) (pg_rt 232)) := by rfl
set_option maxRecDepth 1000000 in
theorem pg_w233 : tables_1[2669]? = some (.code (pg_mn 233) (pg_by 233) (pg_ml 233) (pg_rt 233)) := by rfl
set_option maxRecDepth 1000000 in
theorem pg_w234 : tables_1[2673]? = some (.code (pg_mn 234) (pg_by 234) (pg_ml 234) (pg_rt 234)) := by rfl
set_option maxRecDepth 1000000 in
theorem pg_w235 : tables_1[2677]? = some (.code (pg_mn 235) (pg_by 235) (pg_ml 235) (pg_rt 235)) := by rfl
set_option maxRecDepth 1000000 in
theorem pg_w236 : tables_1[2681]? = some (.code (pg_mn 236) (pg_by 236) (pg_ml 236) (pg_rt 236)) := by rfl
set_option maxRecDepth 1000000 in
theorem pg_w237 : tables_1[2687]? = some (.code (pg_mn 237) (pg_by 237) (pg_ml 237) (pg_rt 237)) := by rfl
set_option maxRecDepth 1000000 in
theorem pg_w238 : tables_1[2691]? = some (.code (pg_mn 238) (pg_by 238) (pg_ml 238) (pg_rt 238)) := by rfl
set_option maxRecDepth 1000000 in
theorem pg_w239 : tables_1[2695]? = some (.code (pg_mn 239) (pg_by 239) (pg_ml 239) (pg_rt 239)) := by rfl
set_option maxRecDepth 1000000 in
theorem pg_w240 : tables_1[2699]? = some (.code (pg_mn 240) (pg_by 240) (pg_ml 240) (pg_rt 240)) := by rfl
set_option maxRecDepth 1000000 in
theorem pg_w241 : tables_1[2703]? = some (.code (pg_mn 241) (pg_by 241) (pg_ml 241) (pg_rt 241)) := by rfl
set_option maxRecDepth 1000000 in
theorem pg_w242 : tables_1[2708]? = some (.code (pg_mn 242) (pg_by 242) (pg_ml 242) (pg_rt 242)) := by rfl
set_option maxRecDepth 1000000 in
theorem pg_w243 : tables_1[2712]? = some (.code (pg_mn 243) (pg_by 243) (pg_ml 243) (pg_rt 243)) := by rfl
set_option maxRecDepth 1000000 in
theorem pg_w244 : tables_1[2716]? = some (.code (pg_mn 244) (pg_by 244) (pg_ml 244) (pg_rt 244)) := by rfl
set_option maxRecDepth 1000000 in
theorem pg_w245 : tables_1[2720]? = some (.code (pg_mn 245) (pg_by 245) (pg_ml 245) (pg_rt 245)) := by rfl
set_option maxRecDepth 1000000 in
theorem pg_w246 : tables_1[2723]? = some (.code (pg_mn 246) (pg_by 246) (pg_ml 246) (pg_rt 246)) := by rfl
set_option maxRecDepth 1000000 in
theorem pg_w247 : tables_1[2730]? = some (.code (pg_mn 247) (pg_by 247) (pg_ml 247) (pg_rt 247)) := by rfl
set_option maxRecDepth 1000000 in
theorem pg_w248 : tables_1[2738]? = some (.code (pg_mn 248) (pg_by 248) (pg_ml 248) (pg_rt 248)) := by rfl
set_option maxRecDepth 1000000 in
theorem pg_w249 : tables_1[2742]? = some (.code (pg_mn 249) (pg_by 249) (pg_ml 249) (pg_rt 249)) := by rfl
set_option maxRecDepth 1000000 in
theorem pg_w250 : tables_1[2747]? = some (.code (pg_mn 250) (pg_by 250) (pg_ml 250) (pg_rt 250)) := by rfl
set_option maxRecDepth 1000000 in
theorem pg_w251 : tables_1[2751]? = some (.code (pg_mn 251) (pg_by 251) (pg_ml 251) (pg_rt 251)) := by rfl
set_option maxRecDepth 1000000 in
theorem pg_w252 : tables_1[2755]? = some (.code (pg_mn 252) (pg_by 252) (pg_ml 252) (pg_rt 252)) := by rfl
set_option maxRecDepth 1000000 in
theorem pg_w253 : tables_1[2760]? = some (.code (pg_mn 253) (pg_by 253) (pg_ml 253) (pg_rt 253)) := by rfl
set_option maxRecDepth 1000000 in
theorem pg_w254 : tables_1[2764]? = some (.code (pg_mn 254) (pg_by 254) (pg_ml 254) (pg_rt 254)) := by rfl
set_option maxRecDepth 1000000 in
theorem pg_w255 : tables_1[2768]? = some (.code (pg_mn 255) (pg_by 255) (pg_ml 255) (pg_rt 255)) := by rfl
set_option maxRecDepth 1000000 in
theorem pg_w256 : tables_1[2772]? = some (.code (pg_mn 256) (pg_by 256) (pg_ml 256) (pg_rt 256)) := by rfl
set_option maxRecDepth 1000000 in
theorem pg_w257 : tables_1[2776]? = some (.code (pg_mn 257) (pg_by 257) (pg_ml 257) (pg_rt 257)) := by rfl
set_option maxRecDepth 1000000 in
theorem pg_w258 : tables_1[2780]? = some (.code (pg_mn 258) (pg_by 258) (pg_ml 258) (pg_rt 258)) := by rfl
set_option maxRecDepth 1000000 in
theorem pg_w259 : tables_1[2784]? = some (.code (pg_mn 259) (pg_by 259) (pg_ml 259) (pg_rt 259)) := by rfl
set_option maxRecDepth 1000000 in
theorem pg_w260 : tables_1[2788]? = some (.code (pg_mn 260) (pg_by 260) (pg_ml 260) (pg_rt 260)) := by rfl
set_option maxRecDepth 1000000 in
theorem pg_w261 : tables_1[2792]? = some (.code (pg_mn 261) (pg_by 261) (pg_ml 261) (pg_rt 261)) := by rfl
set_option maxRecDepth 1000000 in
theorem pg_w262 : tables_1[2796]? = some (.code (pg_mn 262) (pg_by 262) (pg_ml 262) (pg_rt 262)) := by rfl
set_option maxRecDepth 1000000 in
theorem pg_w263 : tables_1[2800]? = some (.code (pg_mn 263) (pg_by 263) (pg_ml 263) (pg_rt 263)) := by rfl
set_option maxRecDepth 1000000 in
theorem pg_w264 : tables_1[2804]? = some (.code (pg_mn 264) (pg_by 264) (pg_ml 264) (pg_rt 264)) := by rfl
set_option maxRecDepth 1000000 in
theorem pg_w265 : tables_1[2808]? = some (.code (pg_mn 265) (pg_by 265) (pg_ml 265) (pg_rt 265)) := by rfl
set_option maxRecDepth 1000000 in
theorem pg_w266 : tables_1[2812]? = some (.code (pg_mn 266) (pg_by 266) (pg_ml 266) (pg_rt 266)) := by rfl
set_option maxRecDepth 1000000 in
theorem pg_w267 : tables_1[2816]? = some (.code (pg_mn 267) (pg_by 267) (pg_ml 267) (pg_rt 267)) := by rfl
set_option maxRecDepth 1000000 in
theorem pg_w268 : tables_1[2820]? = some (.code (pg_mn 268) (pg_by 268) (pg_ml 268) (pg_rt 268)) := by rfl
set_option maxRecDepth 1000000 in
theorem pg_w269 : tables_1[2824]? = some (.code (pg_mn 269) (pg_by 269) (pg_ml 269) (pg_rt 269)) := by rfl
set_option maxRecDepth 1000000 in
theorem pg_w270 : tables_1[2828]? = some (.code (pg_mn 270) (pg_by 270) (pg_ml 270) (pg_rt 270)) := by rfl
set_option maxRecDepth 1000000 in
theorem pg_w271 : tables_1[2832]? = some (.code (pg_mn 271) (pg_by 271) (pg_ml 271) (pg_rt 271)) := by rfl
set_option maxRecDepth 1000000 in
theorem pg_w272 : tables_1[2836]? = some (.code (pg_mn 272) (pg_by 272) (pg_ml 272) (pg_rt 272)) := by rfl
set_option maxRecDepth 1000000 in
theorem pg_w273 : tables_1[2840]? = some (.code (pg_mn 273) (pg_by 273) (pg_ml 273) (pg_rt 273)) := by rfl
set_option maxRecDepth 1000000 in
theorem pg_w274 : tables_1[2844]? = some (.code (pg_mn 274) (pg_by 274) (pg_ml 274) (pg_rt 274)) := by rfl
set_option maxRecDepth 1000000 in
theorem pg_w275 : tables_1[2848]? = some (.code (pg_mn 275) (pg_by 275) (pg_ml 275) (pg_rt 275)) := by rfl
set_option maxRecDepth 1000000 in
theorem pg_w276 : tables_1[2852]? = some (.code (pg_mn 276) (pg_by 276) (pg_ml 276) (pg_rt 276)) := by rfl
set_option maxRecDepth 1000000 in
theorem pg_w277 : tables_1[2856]? = some (.code (pg_mn 277) (pg_by 277) (pg_ml 277) (pg_rt 277)) := by rfl
set_option maxRecDepth 1000000 in
theorem pg_w278 : tables_1[2860]? = some (.code (pg_mn 278) (pg_by 278) (pg_ml 278) (pg_rt 278)) := by rfl
set_option maxRecDepth 1000000 in
theorem pg_w279 : tables_1[2864]? = some (.code (pg_mn 279) (pg_by 279) (pg_ml 279) (pg_rt 279)) := by rfl
set_option maxRecDepth 1000000 in
theorem pg_w280 : tables_1[2868]? = some (.code (pg_mn 280) (pg_by 280) (pg_ml 280) (pg_rt 280)) := by rfl
set_option maxRecDepth 1000000 in
theorem pg_w281 : tables_1[2872]? = some (.code (pg_mn 281) (pg_by 281) (pg_ml 281) (pg_rt 281)) := by rfl
set_option maxRecDepth 1000000 in
theorem pg_w282 : tables_1[2876]? = some (.code (pg_mn 282) (pg_by 282) (pg_ml 282) (pg_rt 282)) := by rfl
set_option maxRecDepth 1000000 in
theorem pg_w283 : tables_1[2880]? = some (.code (pg_mn 283) (pg_by 283) (pg_ml 283) (pg_rt 283)) := by rfl
set_option maxRecDepth 1000000 in
theorem pg_w284 : tables_1[2884]? = some (.code (pg_mn 284) (pg_by 284) (pg_ml 284) (pg_rt 284)) := by rfl
set_option maxRecDepth 1000000 in
theorem pg_w285 : tables_1[2888]? = some (.code (pg_mn 285) (pg_by 285) (pg_ml 285) (pg_rt 285)) := by rfl
set_option maxRecDepth 1000000 in
theorem pg_w286 : tables_1[2892]? = some (.code (pg_mn 286) (pg_by 286) (pg_ml 286) (pg_rt 286)) := by rfl
set_option maxRecDepth 1000000 in
theorem pg_w287 : tables_1[2896]? = some (.code (pg_mn 287) (pg_by 287) (pg_ml 287) (pg_rt 287)) := by rfl
set_option maxRecDepth 1000000 in
theorem pg_w288 : tables_1[2900]? = some (.code (pg_mn 288) (pg_by 288) (pg_ml 288) (pg_rt 288)) := by rfl
set_option maxRecDepth 1000000 in
theorem pg_w289 : tables_1[2905]? = some (.code (pg_mn 289) (pg_by 289) (pg_ml 289) (pg_rt 289)) := by rfl
set_option maxRecDepth 1000000 in
theorem pg_w290 : tables_1[2909]? = some (.code (pg_mn 290) (pg_by 290) (pg_ml 290) (pg_rt 290)) := by rfl
set_option maxRecDepth 1000000 in
theorem pg_w291 : tables_1[2913]? = some (.code (pg_mn 291) (pg_by 291) (pg_ml 291) (pg_rt 291)) := by rfl
set_option maxRecDepth 1000000 in
theorem pg_w292 : tables_1[2917]? = some (.code (pg_mn 292) (pg_by 292) (pg_ml 292) (pg_rt 292)) := by rfl
set_option maxRecDepth 1000000 in
theorem pg_w293 : tables_1[2921]? = some (.code (pg_mn 293) (pg_by 293) (pg_ml 293) (pg_rt 293)) := by rfl
set_option maxRecDepth 1000000 in
theorem pg_w294 : tables_1[2925]? = some (.code (pg_mn 294) (pg_by 294) (pg_ml 294) (pg_rt 294)) := by rfl
set_option maxRecDepth 1000000 in
theorem pg_w295 : tables_1[2929]? = some (.code (pg_mn 295) (pg_by 295) (pg_ml 295) (pg_rt 295)) := by rfl
set_option maxRecDepth 1000000 in
theorem pg_w296 : tables_1[2933]? = some (.code (pg_mn 296) (pg_by 296) (pg_ml 296) (pg_rt 296)) := by rfl
set_option maxRecDepth 1000000 in
theorem pg_w297 : tables_1[2938]? = some (.code (pg_mn 297) (pg_by 297) (pg_ml 297) (pg_rt 297)) := by rfl
set_option maxRecDepth 1000000 in
theorem pg_w298 : tables_1[2942]? = some (.code (pg_mn 298) (pg_by 298) (pg_ml 298) (pg_rt 298)) := by rfl
set_option maxRecDepth 1000000 in
theorem pg_w299 : tables_1[2946]? = some (.code (pg_mn 299) (pg_by 299) (pg_ml 299) (pg_rt 299)) := by rfl
set_option maxRecDepth 1000000 in
theorem pg_w300 : tables_1[2950]? = some (.code (pg_mn 300) (pg_by 300) (pg_ml 300) (pg_rt 300)) := by rfl
set_option maxRecDepth 1000000 in
theorem pg_w301 : tables_1[2954]? = some (.code (pg_mn 301) (pg_by 301) (pg_ml 301) (pg_rt 301)) := by rfl
set_option maxRecDepth 1000000 in
theorem pg_w302 : tables_1[2957]? = some (.code (pg_mn 302) (pg_by 302) (pg_ml 302) (pg_rt 302)) := by rfl
set_option maxRecDepth 1000000 in
theorem pg_w303 : tables_1[2961]? = some (.code (pg_mn 303) (pg_by 303) (pg_ml 303) (pg_rt 303)) := by rfl
set_option maxRecDepth 1000000 in
theorem pg_w304 : tables_1[2965]? = some (.code (pg_mn 304) (pg_by 304) (pg_ml 304) (pg_rt 304)) := by rfl
set_option maxRecDepth 1000000 in
theorem pg_w305 : tables_1[2971]? = some (.code (pg_mn 305) (pg_by 305) (pg_ml 305) (pg_rt 305)) := by rfl
set_option maxRecDepth 1000000 in
theorem pg_w306 : tables_1[2975]? = some (.code (pg_mn 306) (pg_by 306) (pg_ml 306) (pg_rt 306)) := by rfl
set_option maxRecDepth 1000000 in
theorem pg_w307 : tables_1[2979]? = some (.code (pg_mn 307) (pg_by 307) (pg_ml 307) (pg_rt 307)) := by rfl
set_option maxRecDepth 1000000 in
theorem pg_w308 : tables_1[2983]? = some (.code (pg_mn 308) (pg_by 308) (pg_ml 308) (pg_rt 308)) := by rfl
set_option maxRecDepth 1000000 in
theorem pg_w309 : tables_1[2987]? = some (.code (pg_mn 309) (pg_by 309) (pg_ml 309) (pg_rt 309)) := by rfl
set_option maxRecDepth 1000000 in
theorem pg_w310 : tables_1[2992]? = some (.code (pg_mn 310) (pg_by 310) (pg_ml 310) (pg_rt 310)) := by rfl
set_option maxRecDepth 1000000 in
theorem pg_w311 : tables_1[2997]? = some (.code (pg_mn 311) (pg_by 311) (pg_ml 311) (pg_rt 311)) := by rfl
set_option maxRecDepth 1000000 in
theorem pg_w312 : tables_1[3001]? = some (.code (pg_mn 312) (pg_by 312) (pg_ml 312) (pg_rt 312)) := by rfl
set_option maxRecDepth 1000000 in
theorem pg_w313 : tables_1[3005]? = some (.code (pg_mn 313) (pg_by 313) (pg_ml 313) (pg_rt 313)) := by rfl
set_option maxRecDepth 1000000 in
theorem pg_w314 : tables_1[3009]? = some (.code (pg_mn 314) (pg_by 314) (pg_ml 314) (pg_rt 314)) := by rfl
set_option maxRecDepth 1000000 in
theorem pg_w315 : tables_1[3013]? = some (.code (pg_mn 315) (pg_by 315) (pg_ml 315) (pg_rt 315)) := by rfl
set_option maxRecDepth 1000000 in
theorem pg_w316 : tables_1[3017]? = some (.code (pg_mn 316) (pg_by 316) (pg_ml 316) (pg_rt 316)) := by rfl
set_option maxRecDepth 1000000 in
theorem pg_w317 : tables_1[3021]? = some (.code (pg_mn 317) (pg_by 317) (pg_ml 317) (pg_rt 317)) := by rfl
set_option maxRecDepth 1000000 in
theorem pg_w318 : tables_1[3025]? = some (.code (pg_mn 318) (pg_by 318) (pg_ml 318) (pg_rt 318)) := by rfl
set_option maxRecDepth 1000000 in
theorem pg_w319 : tables_1[3029]? = some (.code (pg_mn 319) (pg_by 319) (pg_ml 319) (pg_rt 319)) := by rfl
set_option maxRecDepth 1000000 in
theorem pg_w320 : tables_1[3033]? = some (.code (pg_mn 320) (pg_by 320) (pg_ml 320) (pg_rt 320)) := by rfl
set_option maxRecDepth 1000000 in
theorem pg_w321 : tables_1[3037]? = some (.code (pg_mn 321) (pg_by 321) (pg_ml 321) (pg_rt 321)) := by rfl
set_option maxRecDepth 1000000 in
theorem pg_w322 : tables_1[3042]? = some (.code (pg_mn 322) (pg_by 322) (pg_ml 322) (pg_rt 322)) := by rfl
set_option maxRecDepth 1000000 in
theorem pg_w323 : tables_1[3048]? = some (.code (pg_mn 323) (pg_by 323) (pg_ml 323) (pg_rt 323)) := by rfl
set_option maxRecDepth 1000000 in
theorem pg_w324 : tables_1[3055]? = some (.code (pg_mn 324) (pg_by 324) (pg_ml 324) (pg_rt 324)) := by rfl
set_option maxRecDepth 1000000 in
theorem pg_w325 : tables_1[3059]? = some (.code (pg_mn 325) (pg_by 325) (pg_ml 325) (pg_rt 325)) := by rfl
set_option maxRecDepth 1000000 in
theorem pg_w326 : tables_1[3063]? = some (.code (pg_mn 326) (pg_by 326) (pg_ml 326) (pg_rt 326)) := by rfl
set_option maxRecDepth 1000000 in
theorem pg_w327 : tables_1[3067]? = some (.code (pg_mn 327) (pg_by 327) (pg_ml 327) (pg_rt 327)) := by rfl
set_option maxRecDepth 1000000 in
theorem pg_w328 : tables_1[3072]? = some (.code (pg_mn 328) (pg_by 328) (pg_ml 328) (pg_rt 328)) := by rfl
set_option maxRecDepth 1000000 in
theorem pg_w329 : tables_1[3076]? = some (.code (pg_mn 329) (pg_by 329) (pg_ml 329) (pg_rt 329)) := by rfl
set_option maxRecDepth 1000000 in
theorem pg_w330 : tables_1[3080]? = some (.code (pg_mn 330) (pg_by 330) (pg_ml 330) (pg_rt 330)) := by rfl
set_option maxRecDepth 1000000 in
theorem pg_w331 : tables_1[3084]? = some (.code (pg_mn 331) (pg_by 331) (pg_ml 331) (pg_rt 331)) := by rfl
set_option maxRecDepth 1000000 in
theorem pg_w332 : tables_1[3089]? = some (.code (pg_mn 332) (pg_by 332) (pg_ml 332) (pg_rt 332)) := by rfl
set_option maxRecDepth 1000000 in
theorem pg_w333 : tables_1[3093]? = some (.code (pg_mn 333) (pg_by 333) (pg_ml 333) (pg_rt 333)) := by rfl
set_option maxRecDepth 1000000 in
theorem pg_w334 : tables_1[3097]? = some (.code (pg_mn 334) (pg_by 334) (pg_ml 334) (pg_rt 334)) := by rfl
set_option maxRecDepth 1000000 in
theorem pg_w335 : tables_1[3101]? = some (.code (pg_mn 335) (pg_by 335) (pg_ml 335) (pg_rt 335)) := by rfl
set_option maxRecDepth 1000000 in
theorem pg_w336 : tables_1[3105]? = some (.code (pg_mn 336) (pg_by 336) (pg_ml 336) (pg_rt 336)) := by rfl
set_option maxRecDepth 1000000 in
theorem pg_w337 : tables_1[3109]? = some (.code (pg_mn 337) (pg_by 337) (pg_ml 337) (pg_rt 337)) := by rfl
set_option maxRecDepth 1000000 in
theorem pg_w338 : tables_1[3113]? = some (.code (pg_mn 338) (pg_by 338) (pg_ml 338) (pg_rt 338)) := by rfl
set_option maxRecDepth 1000000 in
theorem pg_w339 : tables_1[3117]? = some (.code (pg_mn 339) (pg_by 339) (pg_ml 339) (pg_rt 339)) := by rfl
set_option maxRecDepth 1000000 in
theorem pg_w340 : tables_1[3121]? = some (.code (pg_mn 340) (pg_by 340) (pg_ml 340) (pg_rt 340)) := by rfl
set_option maxRecDepth 1000000 in
theorem pg_w341 : tables_1[3125]? = some (.code (pg_mn 341) (pg_by 341) (pg_ml 341) (pg_rt 341)) := by rfl
set_option maxRecDepth 1000000 in
theorem pg_w342 : tables_1[3129]? = some (.code (pg_mn 342) (pg_by 342) (pg_ml 342) (pg_rt 342)) := by rfl
set_option maxRecDepth 1000000 in
theorem pg_w343 : tables_1[3133]? = some (.code (pg_mn 343) (pg_by 343) (pg_ml 343) (pg_rt 343)) := by rfl
set_option maxRecDepth 1000000 in
theorem pg_w344 : tables_1[3137]? = some (.code (pg_mn 344) (pg_by 344) (pg_ml 344) (pg_rt 344)) := by rfl
set_option maxRecDepth 1000000 in
theorem pg_w345 : tables_1[3141]? = some (.code (pg_mn 345) (pg_by 345) (pg_ml 345) (pg_rt 345)) := by rfl
set_option maxRecDepth 1000000 in
theorem pg_w346 : tables_1[3145]? = some (.code (pg_mn 346) (pg_by 346) (pg_ml 346) (pg_rt 346)) := by rfl
set_option maxRecDepth 1000000 in
theorem pg_w347 : tables_1[3149]? = some (.code (pg_mn 347) (pg_by 347) (pg_ml 347) (pg_rt 347)) := by rfl
set_option maxRecDepth 1000000 in
theorem pg_w348 : tables_1[3153]? = some (.code (pg_mn 348) (pg_by 348) (pg_ml 348) (pg_rt 348)) := by rfl
set_option maxRecDepth 1000000 in
theorem pg_w349 : tables_1[3157]? = some (.code (pg_mn 349) (pg_by 349) (pg_ml 349) (pg_rt 349)) := by rfl
set_option maxRecDepth 1000000 in
theorem pg_w350 : tables_1[3161]? = some (.code (pg_mn 350) (pg_by 350) (pg_ml 350) (pg_rt 350)) := by rfl
set_option maxRecDepth 1000000 in
theorem pg_w351 : tables_1[3165]? = some (.code (pg_mn 351) (pg_by 351) (pg_ml 351) (pg_rt 351)) := by rfl
set_option maxRecDepth 1000000 in
theorem pg_w352 : tables_1[3169]? = some (.code (pg_mn 352) (pg_by 352) (pg_ml 352) (pg_rt 352)) := by rfl
set_option maxRecDepth 1000000 in
theorem pg_w353 : tables_1[3173]? = some (.code (pg_mn 353) (pg_by 353) (pg_ml 353) (pg_rt 353)) := by rfl
set_option maxRecDepth 1000000 in
theorem pg_w354 : tables_1[3177]? = some (.code (pg_mn 354) (pg_by 354) (pg_ml 354) (pg_rt 354)) := by rfl
set_option maxRecDepth 1000000 in
theorem pg_w355 : tables_1[3181]? = some (.code (pg_mn 355) (pg_by 355) (pg_ml 355) (pg_rt 355)) := by rfl
set_option maxRecDepth 1000000 in
theorem pg_w356 : tables_1[3185]? = some (.code (pg_mn 356) (pg_by 356) (pg_ml 356) (pg_rt 356)) := by rfl
set_option maxRecDepth 1000000 in
theorem pg_w357 : tables_1[3190]? = some (.code (pg_mn 357) (pg_by 357) (pg_ml 357) (pg_rt 357)) := by rfl
set_option maxRecDepth 1000000 in
theorem pg_w358 : tables_1[3194]? = some (.code (pg_mn 358) (pg_by 358) (pg_ml 358) (pg_rt 358)) := by rfl
set_option maxRecDepth 1000000 in
theorem pg_w359 : tables_1[3197]? = some (.code (pg_mn 359) (pg_by 359) (pg_ml 359) (pg_rt 359)) := by rfl
set_option maxRecDepth 1000000 in
theorem pg_w360 : tables_1[3201]? = some (.code (pg_mn 360) (pg_by 360) (pg_ml 360) (pg_rt 360)) := by rfl
set_option maxRecDepth 1000000 in
theorem pg_w361 : tables_1[3205]? = some (.code (pg_mn 361) (pg_by 361) (pg_ml 361) (pg_rt 361)) := by rfl
set_option maxRecDepth 1000000 in
theorem pg_w362 : tables_1[3209]? = some (.code (pg_mn 362) (pg_by 362) (pg_ml 362) (pg_rt 362)) := by rfl
set_option maxRecDepth 1000000 in
theorem pg_w363 : tables_1[3213]? = some (.code (pg_mn 363) (pg_by 363) (pg_ml 363) (pg_rt 363)) := by rfl
set_option maxRecDepth 1000000 in
theorem pg_w364 : tables_1[3217]? = some (.code (pg_mn 364) (pg_by 364) (pg_ml 364) (pg_rt 364)) := by rfl
set_option maxRecDepth 1000000 in
theorem pg_w365 : tables_1[3221]? = some (.code (pg_mn 365) (pg_by 365) (pg_ml 365) (pg_rt 365)) := by rfl
set_option maxRecDepth 1000000 in
theorem pg_w366 : tables_1[3226]? = some (.code (pg_mn 366) (pg_by 366) (pg_ml 366) (pg_rt 366)) := by rfl
set_option maxRecDepth 1000000 in
theorem pg_w367 : tables_1[3230]? = some (.code (pg_mn 367) (pg_by 367) (pg_ml 367) (pg_rt 367)) := by rfl
set_option maxRecDepth 1000000 in
theorem pg_w368 : tables_1[3234]? = some (.code (pg_mn 368) (pg_by 368) (pg_ml 368) (pg_rt 368)) := by rfl
set_option maxRecDepth 1000000 in
theorem pg_w369 : tables_1[3238]? = some (.code (pg_mn 369) (pg_by 369) (pg_ml 369) (pg_rt 369)) := by rfl
set_option maxRecDepth 1000000 in
theorem pg_w370 : tables_1[3242]? = some (.code (pg_mn 370) (pg_by 370) (pg_ml 370) (pg_rt 370)) := by rfl
set_option maxRecDepth 1000000 in
theorem pg_w371 : tables_1[3246]? = some (.code (pg_mn 371) (pg_by 371) (pg_ml 371) (pg_rt 371)) := by rfl
set_option maxRecDepth 1000000 in
theorem pg_w372 : tables_1[3250]? = some (.code (pg_mn 372) (pg_by 372) (pg_ml 372) (pg_rt 372)) := by rfl
set_option maxRecDepth 1000000 in
theorem pg_w373 : tables_1[3254]? = some (.code (pg_mn 373) (pg_by 373) (pg_ml 373) (pg_rt 373)) := by rfl
set_option maxRecDepth 1000000 in
theorem pg_w374 : tables_1[3258]? = some (.code (pg_mn 374) (pg_by 374) (pg_ml 374) (pg_rt 374)) := by rfl
set_option maxRecDepth 1000000 in
theorem pg_w375 : tables_1[3262]? = some (.code (pg_mn 375) (pg_by 375) (pg_ml 375) (pg_rt 375)) := by rfl
set_option maxRecDepth 1000000 in
theorem pg_w376 : tables_1[3266]? = some (.code (pg_mn 376) (pg_by 376) (pg_ml 376) (pg_rt 376)) := by rfl
set_option maxRecDepth 1000000 in
theorem pg_w377 : tables_1[3270]? = some (.code (pg_mn 377) (pg_by 377) (pg_ml 377) (pg_rt 377)) := by rfl
set_option maxRecDepth 1000000 in
theorem pg_w378 : tables_1[1045]? = some (.code (pg_mn 378) (pg_by 378) (pg_ml 378) (pg_rt 378)) := by rfl
set_option maxRecDepth 1000000 in
theorem pg_w379 : tables_1[1048]? = some (.code (pg_mn 379) (pg_by 379) (pg_ml 379) (pg_rt 379)) := by rfl
set_option maxRecDepth 1000000 in
theorem pg_w380 : tables_1[1361]? = some (.code (pg_mn 380) (pg_by 380) (pg_ml 380) (pg_rt 380)) := by rfl
set_option maxRecDepth 1000000 in
theorem pg_w381 : tables_1[1461]? = some (.code (pg_mn 381) (pg_by 381) (pg_ml 381) (pg_rt 381)) := by rfl
end
section
/-! links, by the class that has them -/
def pg_fkL : List (List (Nat × Nat × Nat × Nat)) := [
  [(14, 0, 0, 741), (19, 0, 1, 742), (22, 0, 2, 743), (25, 0, 3, 744), (30, 0, 4, 745), (37, 0, 5, 746), (41, 0, 7, 748), (47, 0, 8, 749), (51, 0, 9, 750), (57, 0, 10, 751), (66, 0, 11, 752), (75, 0, 12, 753), (84, 0, 13, 754), (93, 0, 14, 755), (102, 0, 15, 756), (109, 0, 16, 757), (120, 10, 1, 57), (133, 0, 6, 747), (172, 6, 2, 261), (180, 5, 7, 186), (190, 3, 18, 460), (195, 1, 4, 639), (211, 4, 0, 698), (243, 7, 8, 99), (255, 3, 3, 434), (258, 5, 14, 211), (266, 7, 15, 113), (270, 7, 16, 116), (274, 2, 11, 569), (281, 8, 1, 291), (285, 8, 2, 294), (288, 8, 3, 297), (291, 8, 4, 302), (294, 8, 5, 308), (297, 8, 11, 331), (302, 0, 17, 758), (323, 4, 6, 705), (326, 4, 7, 707), (329, 4, 12, 713), (335, 3, 19, 463), (338, 3, 14, 452), (346, 2, 12, 572), (349, 3, 17, 458), (352, 9, 4, 521), (353, 2, 17, 581), (371, 10, 0, 54), (378, 3, 13, 447), (390, 7, 4, 87)],
  [(9, 1, 0, 634), (15, 1, 1, 635), (19, 1, 2, 636), (23, 1, 3, 637), (33, 1, 4, 638), (39, 2, 4, 551), (55, 2, 16, 577), (59, 2, 18, 582), (66, 2, 11, 567), (74, 8, 4, 298), (79, 8, 10, 322), (87, 10, 0, 49), (91, 8, 7, 311), (94, 8, 5, 303), (101, 2, 5, 554), (105, 9, 5, 523), (110, 2, 6, 557), (113, 9, 3, 518), (114, 9, 1, 514), (117, 9, 2, 516), (120, 2, 13, 573), (123, 2, 12, 570), (134, 3, 3, 431), (140, 3, 12, 445), (169, 5, 14, 207), (180, 2, 7, 560), (183, 2, 8, 563), (189, 8, 11, 327), (190, 3, 14, 449), (197, 7, 8, 96), (221, 3, 19, 461), (242, 2, 17, 579), (271, 7, 5, 90)],
  [(9, 2, 0, 546), (15, 2, 1, 547), (21, 2, 2, 548), (26, 2, 3, 549), (30, 2, 4, 550), (34, 2, 5, 553), (38, 2, 6, 556), (41, 2, 7, 559), (44, 2, 8, 562), (47, 2, 9, 564), (51, 2, 10, 565), (54, 2, 11, 566), (58, 8, 4, 299), (66, 2, 18, 583), (86, 8, 10, 324), (96, 8, 11, 329), (99, 3, 3, 432), (105, 6, 2, 260), (116, 5, 14, 210), (125, 3, 14, 450), (132, 8, 9, 320), (139, 2, 12, 571), (142, 2, 13, 574), (161, 7, 8, 97), (200, 5, 16, 215), (203, 5, 15, 213), (209, 2, 17, 580), (215, 8, 5, 306), (222, 3, 15, 455), (232, 5, 8, 191), (234, 5, 5, 179), (237, 5, 13, 204), (261, 2, 14, 575), (264, 9, 5, 524), (265, 9, 4, 520), (277, 2, 15, 576), (280, 5, 7, 188), (283, 2, 16, 578), (286, 8, 6, 310), (292, 5, 6, 183), (300, 8, 8, 317)],
  [(9, 3, 0, 426), (15, 3, 1, 427), (19, 3, 2, 428), (27, 3, 3, 430), (32, 3, 4, 435), (37, 3, 5, 436), (43, 3, 6, 437), (49, 3, 7, 438), (55, 3, 8, 439), (59, 3, 9, 440), (62, 3, 10, 441), (66, 3, 11, 442), (70, 3, 12, 444), (79, 3, 13, 446), (82, 3, 18, 459), (86, 3, 14, 448), (89, 3, 15, 454), (92, 6, 1, 258), (99, 5, 5, 177), (102, 5, 6, 181), (109, 7, 10, 102), (121, 8, 8, 315), (128, 8, 9, 319), (135, 7, 4, 86), (165, 7, 15, 112), (167, 7, 16, 115), (170, 3, 17, 457), (173, 3, 19, 462), (177, 6, 2, 262), (188, 5, 7, 187), (195, 5, 11, 200), (197, 5, 4, 176), (207, 7, 11, 107), (213, 7, 0, 78), (249, 8, 0, 288), (251, 7, 1, 80), (254, 8, 1, 290), (255, 7, 2, 82), (258, 8, 2, 293), (259, 8, 3, 296), (262, 8, 4, 301), (269, 8, 5, 307), (281, 8, 6, 309), (284, 7, 5, 91), (290, 8, 7, 314), (295, 8, 10, 325), (298, 8, 11, 330), (301, 8, 12, 333), (307, 7, 8, 100), (318, 5, 12, 202), (328, 5, 10, 198), (336, 5, 8, 192), (339, 5, 9, 195), (342, 5, 13, 205), (346, 3, 16, 456)],
  [(15, 4, 0, 697), (21, 4, 1, 699), (25, 4, 2, 700), (28, 4, 3, 701), (31, 4, 4, 702), (35, 4, 5, 703), (38, 10, 1, 55), (78, 10, 0, 51), (84, 4, 7, 706), (88, 4, 6, 704), (94, 4, 12, 712), (97, 4, 9, 709), (116, 4, 8, 708), (119, 4, 10, 710), (122, 4, 11, 711)],
  [(9, 5, 0, 166), (15, 5, 1, 168), (18, 5, 2, 170), (21, 5, 3, 172), (47, 5, 4, 175), (50, 5, 5, 178), (53, 5, 6, 182), (57, 5, 7, 185), (60, 5, 8, 190), (63, 5, 9, 194), (66, 5, 10, 197), (70, 5, 11, 199), (73, 5, 12, 201), (76, 5, 13, 203), (79, 5, 14, 209), (82, 5, 15, 212), (85, 5, 16, 214), (88, 5, 17, 216)],
  [(15, 6, 0, 256), (22, 6, 1, 257), (26, 6, 2, 259), (30, 5, 0, 167), (34, 5, 1, 169), (37, 5, 2, 171), (40, 5, 3, 173)],
  [(9, 7, 0, 77), (15, 7, 1, 79), (19, 7, 2, 81), (22, 7, 3, 83), (26, 7, 4, 84), (29, 7, 5, 88), (32, 7, 6, 92), (35, 7, 8, 95), (38, 7, 9, 101), (41, 7, 11, 106), (44, 7, 15, 111), (48, 7, 16, 114), (51, 10, 0, 50), (60, 7, 7, 94), (85, 7, 10, 103), (95, 7, 12, 108), (168, 7, 13, 109), (212, 7, 14, 110)],
  [],
  [(9, 9, 0, 512), (16, 9, 1, 513), (20, 9, 2, 515), (23, 9, 3, 517), (27, 9, 4, 519), (30, 9, 5, 522), (34, 8, 7, 312), (39, 8, 5, 304), (54, 10, 0, 52), (58, 8, 9, 318), (62, 8, 10, 323), (65, 8, 11, 328)],
  [(15, 10, 0, 48), (21, 10, 1, 56), (25, 10, 2, 59)],
  [(9, 11, 0, 660), (15, 11, 1, 661), (19, 11, 2, 662), (28, 11, 3, 663), (31, 11, 4, 664), (37, 11, 5, 665), (44, 7, 11, 105), (57, 10, 1, 58), (82, 3, 11, 443), (118, 2, 11, 568), (127, 8, 11, 326), (133, 8, 5, 305), (137, 8, 4, 300), (140, 8, 1, 289), (145, 8, 2, 292), (148, 8, 3, 295), (151, 3, 15, 453), (158, 5, 14, 208), (159, 10, 2, 60), (171, 5, 3, 174), (189, 7, 4, 85), (201, 7, 6, 93), (204, 10, 0, 53), (207, 7, 5, 89), (224, 3, 14, 451), (252, 11, 8, 668), (259, 8, 9, 321), (262, 8, 12, 332), (269, 7, 8, 98), (279, 11, 7, 667), (282, 11, 6, 666), (285, 3, 3, 433), (289, 6, 2, 263), (295, 5, 17, 217), (300, 3, 2, 429), (325, 8, 7, 313), (357, 7, 10, 104), (361, 8, 8, 316), (375, 5, 5, 180), (378, 5, 6, 184), (381, 5, 9, 196), (384, 5, 7, 189), (387, 5, 8, 193), (403, 5, 13, 206), (408, 2, 4, 552), (415, 2, 6, 558), (418, 2, 5, 555), (421, 2, 7, 561)],
  [(7, 12, 1, 2175), (14, 12, 3, 2177), (17, 12, 6, 2180), (20, 12, 7, 2181), (24, 12, 8, 2182), (27, 12, 9, 2183), (30, 12, 10, 2184), (33, 12, 11, 2185), (37, 12, 12, 2186), (40, 12, 13, 2187), (44, 12, 17, 2191), (47, 12, 18, 2192), (50, 12, 19, 2193), (54, 12, 21, 2195), (57, 12, 22, 2196), (60, 12, 23, 2197), (63, 12, 24, 2198), (66, 12, 25, 2199), (69, 12, 26, 2200), (72, 12, 27, 2201), (75, 12, 28, 2202), (78, 12, 29, 2203), (82, 12, 30, 2204), (85, 12, 33, 2207), (88, 12, 34, 2208), (91, 12, 35, 2209), (94, 12, 36, 2210), (97, 12, 37, 2211), (100, 12, 38, 2212), (103, 12, 39, 2213), (106, 12, 40, 2214), (109, 12, 41, 2215), (112, 12, 42, 2216), (115, 12, 45, 2219), (118, 12, 46, 2220), (121, 12, 47, 2221), (124, 12, 49, 2223), (127, 12, 51, 2225), (130, 12, 52, 2226), (133, 12, 53, 2227), (136, 12, 54, 2228), (139, 12, 55, 2229), (142, 12, 56, 2230), (145, 12, 57, 2231), (148, 12, 58, 2232), (151, 12, 59, 2233), (154, 12, 60, 2234), (157, 12, 61, 2235), (160, 12, 62, 2236), (163, 12, 63, 2237), (166, 12, 65, 2239), (169, 12, 66, 2240), (172, 12, 67, 2241), (175, 12, 71, 2245), (178, 12, 72, 2246), (181, 12, 73, 2247), (184, 12, 75, 2249), (187, 12, 76, 2250), (190, 12, 77, 2251), (193, 12, 78, 2252), (196, 12, 91, 2265), (200, 12, 92, 2266), (203, 12, 93, 2267), (206, 12, 94, 2268), (209, 12, 95, 2269), (212, 12, 96, 2270), (215, 12, 97, 2271), (218, 12, 99, 2273), (221, 12, 100, 2274), (224, 12, 105, 2279), (227, 12, 106, 2280), (230, 12, 107, 2281), (233, 12, 108, 2282), (236, 12, 109, 2283), (239, 12, 110, 2284), (242, 12, 111, 2285), (245, 12, 112, 2286), (248, 12, 113, 2287), (251, 12, 114, 2288), (254, 12, 116, 2290), (257, 12, 117, 2291), (260, 12, 118, 2292), (263, 12, 119, 2293), (266, 12, 120, 2294), (269, 12, 121, 2295), (272, 12, 122, 2296), (275, 12, 128, 2302), (278, 12, 129, 2303), (281, 12, 0, 2174), (284, 12, 2, 2176), (467, 12, 5, 2179), (473, 12, 20, 2194), (486, 12, 31, 2205), (489, 12, 48, 2222), (492, 12, 32, 2206), (509, 12, 68, 2242), (519, 12, 4, 2178), (522, 12, 70, 2244), (528, 12, 69, 2243), (531, 12, 14, 2188), (557, 12, 98, 2272), (577, 12, 74, 2248), (601, 12, 50, 2224), (607, 12, 89, 2263), (614, 12, 88, 2262), (626, 12, 90, 2264), (630, 12, 15, 2189), (643, 12, 81, 2255), (650, 12, 84, 2258), (653, 12, 85, 2259), (656, 12, 86, 2260), (659, 12, 83, 2257), (662, 12, 87, 2261), (665, 12, 64, 2238), (674, 12, 80, 2254), (681, 12, 79, 2253), (696, 12, 82, 2256), (747, 12, 16, 2190), (799, 12, 43, 2217), (813, 12, 123, 2297), (816, 12, 126, 2300), (822, 12, 125, 2299), (825, 12, 124, 2298), (884, 12, 127, 2301), (916, 12, 101, 2275), (924, 12, 115, 2289), (936, 12, 103, 2277), (939, 12, 102, 2276), (942, 12, 104, 2278), (948, 12, 44, 2218)],
  [],
  [],
  [],
  [],
  [],
  [],
  [],
  []]
def pg_fk (oc : Nat) : List (Nat × Nat × Nat × Nat) := pg_fkL.getD oc []
def pg_mkL : List (List (Nat × Nat × Nat)) := [
  [(11, 166, 41), (34, 125, 73), (46, 121, 154), (63, 71, 275), (72, 160, 507), (81, 49, 540), (90, 39, 627), (99, 182, 653), (108, 100, 690), (129, 170, 1845), (138, 16, 1854), (142, 168, 1558), (145, 20, 1965), (150, 2, 800), (154, 183, 1572), (158, 6, 1669), (162, 23, 1984), (168, 124, 1991), (177, 123, 1993), (186, 198, 1681), (198, 203, 2010), (202, 101, 1722), (206, 102, 1730), (214, 105, 1753), (217, 117, 1757), (221, 119, 1563), (224, 103, 1758), (228, 27, 2036), (237, 206, 2060), (246, 126, 2085), (249, 127, 2086), (252, 208, 2094), (261, 28, 2040), (273, 133, 2122), (277, 57, 2131), (298, 106, 1763), (305, 108, 1785), (308, 110, 1803), (311, 111, 1812), (317, 177, 1868), (332, 38, 2156), (340, 99, 2160), (343, 61, 2164), (356, 72, 804), (359, 50, 1008), (362, 68, 1423), (365, 40, 1428), (368, 44, 1503), (374, 174, 1559), (381, 114, 1988), (384, 167, 1870), (387, 115, 1989), (393, 143, 1873), (400, 179, 1859), (404, 17, 1860), (408, 144, 1877), (412, 18, 1864)],
  [(30, 166, 633), (36, 41, 1432), (51, 42, 1471), (62, 171, 1452), (70, 57, 1475), (83, 43, 1476), (97, 172, 1481), (126, 69, 1486), (130, 173, 1499), (143, 124, 1436), (149, 168, 1437), (155, 169, 1443), (163, 170, 1463), (176, 61, 1467), (186, 58, 1480), (193, 94, 1507), (202, 97, 1508), (206, 139, 1509), (210, 130, 1510), (213, 45, 1511), (217, 128, 1515), (228, 98, 1528), (231, 46, 1529), (234, 47, 1540), (238, 48, 1546), (247, 54, 1545), (251, 80, 1550), (255, 141, 1551), (258, 96, 1555), (261, 140, 1556), (264, 165, 1557), (268, 70, 1533)],
  [(70, 51, 1012), (73, 52, 1036), (76, 56, 1355), (79, 60, 1376), (82, 57, 1362), (90, 165, 1410), (108, 122, 1414), (112, 66, 1415), (119, 161, 1016), (128, 77, 1022), (135, 162, 1023), (151, 378, 1043), (157, 94, 1328), (166, 97, 1329), (169, 139, 1333), (173, 130, 1334), (177, 53, 1335), (181, 128, 1339), (185, 98, 1340), (189, 54, 1346), (193, 55, 1351), (196, 80, 1350), (206, 70, 1490), (212, 380, 1359), (218, 58, 1366), (225, 90, 1372), (228, 59, 1373), (238, 61, 1380), (254, 62, 1391), (257, 63, 1395), (266, 64, 1399), (272, 65, 1403), (294, 67, 1419), (297, 136, 1494), (303, 140, 1495)],
  [(24, 121, 280), (46, 125, 362), (75, 113, 366), (95, 80, 905), (105, 94, 981), (112, 128, 900), (118, 77, 840), (124, 138, 985), (132, 73, 808), (138, 75, 832), (142, 84, 927), (148, 87, 950), (158, 88, 957), (162, 89, 961), (180, 122, 812), (184, 123, 816), (191, 74, 828), (200, 118, 945), (203, 85, 931), (210, 137, 935), (217, 133, 879), (220, 117, 883), (224, 124, 941), (227, 86, 942), (231, 76, 836), (235, 78, 871), (238, 79, 891), (241, 82, 913), (245, 126, 844), (265, 127, 848), (272, 129, 856), (287, 130, 863), (292, 131, 867), (304, 132, 875), (310, 134, 895), (315, 135, 901), (321, 81, 909), (325, 136, 917), (331, 83, 921), (343, 90, 965), (349, 91, 969), (353, 93, 977), (357, 92, 973), (360, 139, 993), (363, 95, 999), (367, 96, 1003)],
  [(12, 166, 696), (46, 179, 1768), (50, 177, 1738), (60, 180, 1775), (64, 107, 1780), (75, 168, 1789), (80, 174, 1790), (91, 109, 1791), (100, 104, 1743), (125, 167, 1747), (129, 178, 1748), (133, 103, 1734), (137, 101, 1807)],
  [(25, 114, 370), (28, 167, 887), (34, 115, 422), (91, 170, 1567)],
  [(43, 124, 820), (47, 116, 824)],
  [(63, 128, 852), (67, 134, 989), (73, 135, 991), (76, 126, 992), (80, 127, 997), (88, 132, 939), (92, 136, 940), (98, 145, 1881), (102, 146, 1888), (105, 148, 1897), (109, 150, 1915), (112, 152, 1925), (116, 154, 1937), (120, 156, 1951), (123, 157, 1956), (133, 147, 1892), (138, 130, 1902), (141, 142, 1903), (144, 149, 1904), (148, 129, 1909), (161, 151, 1919), (173, 153, 1931), (176, 140, 1936), (179, 178, 1935), (191, 378, 1943), (197, 138, 1944), (200, 139, 1945), (203, 155, 1946), (215, 158, 1960)],
  [],
  [(40, 167, 1027), (46, 163, 1028), (50, 164, 1032)],
  [(29, 167, 1742), (37, 170, 1447), (46, 381, 1459)],
  [(25, 166, 658), (41, 168, 1595), (50, 132, 2064), (54, 136, 1644), (60, 171, 1597), (64, 140, 1645), (68, 181, 2065), (74, 170, 1616), (78, 207, 2070), (88, 133, 1689), (91, 117, 1690), (95, 119, 1665), (102, 126, 2073), (123, 57, 2098), (134, 175, 1702), (154, 90, 1589), (163, 199, 1685), (167, 137, 1688), (177, 169, 1693), (181, 200, 1694), (185, 202, 1713), (194, 201, 1699), (198, 176, 1708), (210, 174, 1622), (216, 184, 1576), (219, 185, 1583), (227, 187, 1598), (230, 191, 1623), (233, 193, 1635), (236, 197, 1660), (239, 188, 1607), (246, 173, 1667), (255, 77, 1580), (265, 94, 1581), (272, 97, 1582), (275, 80, 1587), (292, 122, 1588), (296, 186, 1590), (303, 124, 1594), (307, 134, 1602), (310, 142, 1603), (313, 189, 1612), (317, 129, 1617), (320, 190, 1618), (328, 139, 1627), (331, 130, 1628), (336, 128, 1630), (340, 192, 1631), (350, 194, 1640), (353, 196, 1650), (364, 195, 1647), (368, 120, 1654), (372, 118, 1658), (391, 61, 2014), (394, 204, 2015), (398, 205, 2020), (404, 58, 2019)],
  [(287, 212, 2573), (291, 215, 2585), (295, 221, 2612), (299, 220, 2608), (304, 226, 2633), (313, 218, 2601), (317, 230, 2651), (320, 224, 2625), (323, 223, 2621), (326, 235, 2674), (329, 231, 2657), (332, 267, 2813), (343, 219, 2605), (347, 225, 2629), (353, 227, 2639), (356, 228, 2643), (366, 232, 2662), (369, 233, 2666), (372, 234, 2670), (375, 236, 2678), (380, 237, 2684), (383, 238, 2688), (386, 239, 2692), (405, 247, 2728), (408, 242, 2705), (411, 245, 2717), (415, 246, 2721), (419, 241, 2700), (422, 243, 2709), (425, 244, 2713), (431, 251, 2748), (435, 249, 2739), (438, 250, 2744), (441, 217, 2594), (445, 222, 2616), (448, 229, 2647), (451, 240, 2696), (454, 248, 2735), (461, 216, 2590), (464, 252, 2752), (470, 214, 2581), (476, 268, 2817), (479, 262, 2793), (483, 261, 2789), (495, 255, 2765), (499, 256, 2769), (503, 271, 2829), (506, 276, 2849), (513, 273, 2837), (516, 275, 2845), (525, 272, 2833), (534, 270, 2825), (538, 274, 2841), (541, 266, 2809), (544, 277, 2853), (548, 265, 2805), (551, 269, 2821), (554, 264, 2801), (560, 283, 2877), (563, 284, 2881), (567, 282, 2873), (570, 280, 2865), (574, 285, 2885), (580, 298, 2939), (585, 297, 2935), (588, 296, 2930), (591, 287, 2893), (594, 295, 2926), (597, 299, 2943), (604, 288, 2897), (610, 292, 2914), (617, 290, 2906), (620, 291, 2910), (623, 293, 2918), (633, 302, 2955), (636, 303, 2958), (639, 306, 2973), (646, 309, 2984), (670, 307, 2976), (677, 308, 2980), (686, 310, 2989), (690, 301, 2951), (693, 304, 2962), (703, 305, 2968), (709, 311, 2994), (712, 312, 2998), (716, 313, 3002), (719, 317, 3018), (722, 318, 3022), (725, 319, 3026), (732, 315, 3010), (736, 316, 3014), (739, 320, 3030), (743, 322, 3039), (750, 321, 3034), (762, 314, 3006), (766, 260, 2785), (769, 263, 2797), (772, 278, 2857), (775, 279, 2861), (778, 281, 2869), (781, 286, 2889), (784, 289, 2902), (787, 294, 2922), (790, 300, 2947), (793, 323, 3045), (796, 324, 3052), (802, 326, 3060), (805, 327, 3064), (810, 328, 3069), (819, 334, 3094), (828, 336, 3102), (831, 340, 3118), (835, 339, 3114), (838, 338, 3110), (841, 341, 3122), (844, 333, 3090), (847, 335, 3098), (850, 337, 3106), (853, 342, 3126), (856, 344, 3134), (859, 343, 3130), (863, 345, 3138), (866, 347, 3146), (869, 346, 3142), (873, 348, 3150), (877, 259, 3085), (881, 332, 3086), (887, 353, 3170), (890, 350, 3158), (893, 351, 3162), (896, 352, 3166), (899, 354, 3174), (904, 356, 3182), (907, 357, 3187), (910, 359, 3195), (913, 360, 3198), (919, 364, 3214), (927, 363, 3210), (930, 365, 3218), (933, 362, 3206), (945, 366, 3223), (951, 367, 3227), (955, 369, 3235)],
  [],
  [],
  [],
  [(7, 14, 1822), (17, 15, 1849), (21, 21, 1972), (24, 22, 1980), (28, 24, 1997), (31, 25, 2005), (34, 26, 2032), (40, 29, 2080), (44, 30, 2090), (47, 31, 2103), (51, 32, 2110), (55, 33, 2118), (58, 34, 2126), (61, 35, 2135), (65, 36, 2143), (68, 37, 2151), (71, 0, 33), (74, 209, 2167), (77, 382, 1817), (82, 211, 2569), (83, 210, 2565), (86, 383, 1846), (89, 213, 2577), (90, 384, 1969), (92, 253, 2757), (93, 1, 796), (97, 259, 2781), (98, 5, 1568), (101, 331, 3081), (102, 385, 1977), (105, 254, 2761), (106, 386, 1994), (108, 257, 2773), (109, 7, 1673), (112, 258, 2777), (113, 8, 1677), (116, 349, 3154), (117, 387, 2002), (119, 325, 3056), (120, 9, 1718), (124, 368, 3231), (125, 388, 2028), (128, 355, 3178), (129, 389, 2077), (132, 330, 3077), (133, 390, 2087), (135, 358, 3191), (136, 391, 2100), (138, 372, 3247), (139, 392, 2107), (141, 373, 3251), (142, 393, 2115), (144, 329, 3073), (145, 394, 2123), (147, 374, 3255), (148, 395, 2132), (151, 375, 3259), (152, 11, 1759), (155, 361, 3202), (156, 12, 1799), (159, 370, 3239), (160, 13, 1808), (163, 371, 3243), (164, 396, 2140), (166, 376, 3263), (167, 397, 2148), (169, 377, 3267)],
  [(13, 379, 1046)],
  [],
  [],
  []]
def pg_mk (oc : Nat) : List (Nat × Nat × Nat) := pg_mkL.getD oc []
def pg_mhL : List (List (Nat × Nat × Nat)) := [
  [(56, 112, 272)],
  [(224, 4, 1516)],
  [(25, 159, 545), (246, 3, 1386)],
  [(36, 159, 284), (65, 112, 364)],
  [(68, 10, 1726)],
  [],
  [(21, 112, 162)],
  [(56, 10, 1896), (151, 19, 1910), (207, 4, 1950)],
  [],
  [],
  [(33, 10, 1779)],
  [(344, 3, 1611)],
  [],
  [],
  [],
  [],
  [],
  [],
  [],
  [],
  []]
def pg_mh (oc : Nat) : List (Nat × Nat × Nat) := pg_mhL.getD oc []
def pg_nwL : List (List (Nat × Nat × Nat)) := [
  [(9, 10, 39), (28, 7, 70), (44, 6, 152), (54, 5, 271), (61, 3, 273), (70, 9, 505), (79, 2, 538), (88, 1, 625), (97, 11, 651), (106, 4, 688), (113, 13, 1826), (124, 14, 1829), (232, 15, 2044)],
  [(27, 10, 631)],
  [(19, 8, 544)],
  [(22, 6, 279), (30, 8, 281), (41, 7, 361), (53, 5, 363)],
  [(9, 10, 694)],
  [],
  [(13, 5, 159)],
  [],
  [],
  [],
  [],
  [(23, 10, 657)],
  [],
  [],
  [],
  [],
  [(8, 0, 31), (72, 12, 2165)],
  [(43, 13, 1049)],
  [],
  [],
  []]
def pg_nw (oc : Nat) : List (Nat × Nat × Nat) := pg_nwL.getD oc []
def pg_aqL : List (List (Nat × Nat × Nat)) := [
  [(28, 4, 70)],
  [],
  [(19, 6, 544)],
  [(30, 6, 281), (41, 4, 361), (53, 5, 363)],
  [],
  [],
  [(13, 5, 159)],
  [],
  [],
  [],
  [],
  [(35, 5, 659)],
  [],
  [],
  [],
  [],
  [],
  [],
  [],
  [],
  []]
def pg_aq (oc : Nat) : List (Nat × Nat × Nat) := pg_aqL.getD oc []
def pg_liL : List (List (Nat × Nat × Nat)) := [
  [(18, 0, 69)],
  [(29, 0, 632)],
  [],
  [(335, 1, 925), (338, 2, 926)],
  [(11, 0, 695)],
  [],
  [],
  [(171, 2, 1929), (172, 1, 1930)],
  [],
  [(15, 3, 511)],
  [(41, 4, 1706)],
  [(101, 1, 1659), (360, 2, 1646)],
  [(13, 0, 2171), (53, 5, 2172), (199, 6, 2173), (378, 2, 2682), (379, 1, 2683)],
  [],
  [],
  [],
  [],
  [],
  [],
  [],
  []]
def pg_li (oc : Nat) : List (Nat × Nat × Nat) := pg_liL.getD oc []
def pg_llL : List (List (Nat × Nat × Nat)) := [
  [(209, 9, 1752), (415, 11, 1869), (417, 12, 1871), (419, 13, 1872), (421, 10, 1729), (423, 14, 1913), (425, 0, 1519), (427, 1, 1520), (429, 2, 1521), (431, 3, 1522), (433, 4, 1523), (435, 5, 1524), (437, 6, 1525), (439, 7, 1526), (441, 8, 1527)],
  [(49, 14, 1470), (159, 15, 1451), (161, 1, 1462), (167, 16, 1464), (172, 17, 1465), (174, 18, 1466), (245, 25, 1544), (273, 19, 1534), (275, 20, 1535), (277, 21, 1536), (279, 22, 1537), (281, 23, 1538), (283, 24, 1539)],
  [(64, 28, 1427), (242, 26, 1384), (244, 15, 1385), (250, 14, 1389), (252, 27, 1390), (270, 25, 1408), (275, 9, 1409)],
  [(116, 30, 1007), (313, 29, 899), (370, 31, 1344), (372, 1, 1345)],
  [(54, 1, 1772), (56, 16, 1773), (58, 18, 1774), (71, 28, 1783), (73, 32, 1784), (104, 17, 1795), (106, 30, 1796), (114, 33, 1798), (141, 9, 1816)],
  [],
  [],
  [(71, 2, 990), (83, 30, 998), (129, 16, 1886), (131, 17, 1887), (136, 25, 1901), (155, 34, 1914), (157, 1, 1907), (159, 35, 1908), (164, 36, 1923), (166, 33, 1924), (210, 29, 1955), (218, 13, 1964)],
  [],
  [],
  [],
  [(72, 39, 2069), (99, 12, 1712), (143, 40, 2099), (192, 37, 1698), (202, 38, 1717), (214, 11, 1707), (222, 17, 1596), (250, 16, 1668), (323, 25, 1610), (334, 2, 1629), (348, 1, 1639), (389, 33, 1664), (401, 30, 2027), (424, 15, 2026)],
  [(302, 25, 2620), (307, 1, 2637), (309, 35, 2901), (311, 2, 2704), (335, 14, 2646), (337, 42, 2598), (339, 16, 2599), (341, 17, 2600), (351, 34, 2638), (360, 30, 2655), (362, 36, 2656), (364, 33, 2661), (389, 3, 2731), (391, 5, 2732), (393, 7, 2733), (395, 8, 2734), (397, 0, 2724), (399, 12, 2725), (401, 4, 2726), (403, 6, 2727), (429, 29, 2743), (457, 13, 2756), (459, 41, 2589), (583, 31, 2934), (668, 15, 2972), (684, 9, 2988), (699, 18, 2966), (701, 26, 2967), (707, 28, 2993), (728, 43, 3043), (730, 44, 3044), (754, 22, 3038), (756, 45, 3049), (758, 46, 3050), (760, 47, 3051), (808, 48, 3068), (902, 49, 3186), (922, 32, 3222)],
  [],
  [],
  [],
  [(75, 50, 3271)],
  [],
  [],
  [],
  []]
def pg_ll (oc : Nat) : List (Nat × Nat × Nat) := pg_llL.getD oc []
def pg_gsL : List (List (Nat × Nat × Nat)) := [
  [(397, 1, 1858)],
  [],
  [],
  [],
  [],
  [],
  [],
  [],
  [],
  [],
  [],
  [],
  [],
  [],
  [],
  [],
  [],
  [],
  [],
  [],
  []]
def pg_gs (oc : Nat) : List (Nat × Nat × Nat) := pg_gsL.getD oc []
def pg_ghL : List (List (Nat × Nat × Nat)) := [
  [],
  [(45, 2, 1468), (152, 3, 1441)],
  [(61, 5, 1370), (122, 4, 1020)],
  [],
  [(42, 3, 1767)],
  [],
  [],
  [(126, 3, 1885)],
  [],
  [],
  [],
  [(173, 1, 1691), (243, 3, 1666), (412, 6, 2024)],
  [],
  [],
  [],
  [],
  [],
  [],
  [],
  [],
  []]
def pg_gh (oc : Nat) : List (Nat × Nat × Nat) := pg_ghL.getD oc []
def pg_spL : List (List (Nat × Nat × Nat)) := [
  [(3, 9006, 36), (117, 9011, 1828), (128, 9012, 1839), (236, 9013, 2054)],
  [(3, 9006, 630)],
  [(3, 9006, 543), (145, 9002, 1040), (289, 9003, 1407)],
  [(3, 9006, 278), (275, 9003, 860)],
  [(3, 9006, 693), (108, 9004, 1797)],
  [(3, 9006, 165), (38, 9007, 374), (43, 9008, 384)],
  [(1, 9006, 157), (7, 9001, 158)],
  [(3, 9006, 76), (183, 9001, 1941), (188, 9002, 1942)],
  [(1, 9006, 287)],
  [(3, 9006, 510)],
  [(3, 9006, 44), (9, 9001, 45), (42, 9004, 1456), (52, 9005, 1485)],
  [(3, 9006, 656), (108, 9007, 2075), (114, 9008, 2076)],
  [(1, 9006, 2170)],
  [],
  [],
  [],
  [],
  [(65, 9011, 1282)],
  [],
  [],
  []]
def pg_sp (oc : Nat) : List (Nat × Nat × Nat) := pg_spL.getD oc []
def pg_okw (i : Nat) (w : Cond) : Bool := decide (tables_1[i]? = some w) && goodWord w
theorem pg_okw_in {i : Nat} {w : Cond} (h : pg_okw i w = true) : w ∈ pg_Ts := by
  simp only [pg_okw, Bool.and_eq_true, decide_eq_true_eq] at h
  exact pg_at h.1 h.2
def pg_okn (i : Nat) (w : Cond) : Bool := decide (tables_1[i]? = some w) && decide (i ∈ pg_nsx)
theorem pg_okn_in {i : Nat} {w : Cond} (h : pg_okn i w = true) : w ∈ pg_Ns := by
  simp only [pg_okn, Bool.and_eq_true, decide_eq_true_eq] at h
  exact List.mem_filterMap.mpr ⟨i, h.2, h.1⟩
def pg_cfk (oc : Nat) (z : Nat × Nat × Nat × Nat) : Bool := decide (z.2.1 < 16) && (decide (z.2.2.1 < pg_nf z.2.1) && pg_okw z.2.2.2 (.fieldLink (pg_cn oc) z.1 (pg_T z.2.1 z.2.2.1).1 (pg_T z.2.1 z.2.2.1).2.1 (pg_T z.2.1 z.2.2.1).2.2.1))
theorem pg_cfk_ok : ∀ oc ∈ List.range 21, ∀ z ∈ pg_fk oc, pg_cfk oc z = true := by decide +kernel
def pg_cmk (oc : Nat) (z : Nat × Nat × Nat) : Bool := decide (z.2.1 < 382) && pg_okw z.2.2 (.methodLink (pg_cn oc) z.1 (pg_mn z.2.1))
theorem pg_cmk_ok : ∀ oc ∈ List.range 21, ∀ z ∈ pg_mk oc, pg_cmk oc z = true := by decide +kernel
def pg_cmh (oc : Nat) (z : Nat × Nat × Nat) : Bool := decide (z.2.1 < 382) && pg_okn z.2.2 (.methodLinkNest (pg_cn oc) z.1 (pg_mn z.2.1) "LinkHouse")
theorem pg_cmh_ok : ∀ oc ∈ List.range 21, ∀ z ∈ pg_mh oc, pg_cmh oc z = true := by decide +kernel
def pg_cnw (oc : Nat) (z : Nat × Nat × Nat) : Bool := decide (z.2.1 < 16) && pg_okw z.2.2 (.classLink (pg_cn oc) z.1 (pg_cn z.2.1))
theorem pg_cnw_ok : ∀ oc ∈ List.range 21, ∀ z ∈ pg_nw oc, pg_cnw oc z = true := by decide +kernel
def pg_caq (oc : Nat) (z : Nat × Nat × Nat) : Bool := match pg_ty[z.2.1]? with
    | some (.object C) => decide (C ∈ pg_Ao) && pg_okw z.2.2 (.classLink (pg_cn oc) z.1 C)
    | _ => false
theorem pg_caq_ok : ∀ oc ∈ List.range 21, ∀ z ∈ pg_aq oc, pg_caq oc z = true := by decide +kernel
def pg_cli (oc : Nat) (z : Nat × Nat × Nat) : Bool := match pg_ki[z.2.1]? with
    | some v => pg_okw z.2.2 (.constant (pg_cn oc) z.1 v)
    | none => false
theorem pg_cli_ok : ∀ oc ∈ List.range 21, ∀ z ∈ pg_li oc, pg_cli oc z = true := by decide +kernel
def pg_cll (oc : Nat) (z : Nat × Nat × Nat) : Bool := match pg_kl[z.2.1]? with
    | some v => pg_okw z.2.2 (.constantLong (pg_cn oc) z.1 v)
    | none => false
theorem pg_cll_ok : ∀ oc ∈ List.range 21, ∀ z ∈ pg_ll oc, pg_cll oc z = true := by decide +kernel
def pg_cgs (oc : Nat) (z : Nat × Nat × Nat) : Bool := match pg_sf[z.2.1 - 1]? with
    | some f => decide (f.2.2.2 = z.2.1) && pg_okw z.2.2 (.fieldLink (pg_cn oc) z.1 f.1 f.2.1 f.2.2.1)
    | none => false
theorem pg_cgs_ok : ∀ oc ∈ List.range 21, ∀ z ∈ pg_gs oc, pg_cgs oc z = true := by decide +kernel
def pg_cgh (oc : Nat) (z : Nat × Nat × Nat) : Bool := match pg_sf[z.2.1 - 1]? with
    | some f => decide (f.2.2.2 = z.2.1) && pg_okn z.2.2 (.fieldLinkNest (pg_cn oc) z.1 f.1 f.2.1 f.2.2.1 "LinkHouse")
    | none => false
theorem pg_cgh_ok : ∀ oc ∈ List.range 21, ∀ z ∈ pg_gh oc, pg_cgh oc z = true := by decide +kernel
end
