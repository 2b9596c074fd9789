/-! the tables of the pure machine: classes, fields, methods, links, printed by a program (wip/tools/gen01.py) out of claim/Statement.lean -/
def pg_Ts : List Cond := tables_1.filter goodWord
theorem pg_good (w : Cond) (h : w ∈ pg_Ts) : (w.onTables && w.keeps) = true ∨ ∃ ty, w = .arrayClass ty := good_of_word (List.mem_filter.mp h).2
def pg_tbl : List (List Cond) := [tables_1_1, tables_1_2, tables_1_3, tables_1_4, tables_1_5, tables_1_6, tables_1_7, tables_1_8, tables_1_9, tables_1_10, tables_1_11, tables_1_12, tables_1_13, tables_1_14]
def pg_tb (i : Nat) : Option Cond := (pg_tbl.getD (i / 240) [])[i % 240]?
theorem pg_tbm : ∀ L ∈ pg_tbl, ∀ w ∈ L, w ∈ tables_1 := by
  simp only [pg_tbl, List.forall_mem_cons]
  unfold tables_1
  exact ⟨fun w h => List.mem_append_left _ h, fun w h => List.mem_append_right _ (List.mem_append_left _ h), fun w h => List.mem_append_right _ (List.mem_append_right _ (List.mem_append_left _ h)), fun w h => List.mem_append_right _ (List.mem_append_right _ (List.mem_append_right _ (List.mem_append_left _ h))), fun w h => List.mem_append_right _ (List.mem_append_right _ (List.mem_append_right _ (List.mem_append_right _ (List.mem_append_left _ h)))), fun w h => List.mem_append_right _ (List.mem_append_right _ (List.mem_append_right _ (List.mem_append_right _ (List.mem_append_right _ (List.mem_append_left _ h))))), fun w h => List.mem_append_right _ (List.mem_append_right _ (List.mem_append_right _ (List.mem_append_right _ (List.mem_append_right _ (List.mem_append_right _ (List.mem_append_left _ h)))))), fun w h => List.mem_append_right _ (List.mem_append_right _ (List.mem_append_right _ (List.mem_append_right _ (List.mem_append_right _ (List.mem_append_right _ (List.mem_append_right _ (List.mem_append_left _ h))))))), fun w h => List.mem_append_right _ (List.mem_append_right _ (List.mem_append_right _ (List.mem_append_right _ (List.mem_append_right _ (List.mem_append_right _ (List.mem_append_right _ (List.mem_append_right _ (List.mem_append_left _ h)))))))), fun w h => List.mem_append_right _ (List.mem_append_right _ (List.mem_append_right _ (List.mem_append_right _ (List.mem_append_right _ (List.mem_append_right _ (List.mem_append_right _ (List.mem_append_right _ (List.mem_append_right _ (List.mem_append_left _ h))))))))), fun w h => List.mem_append_right _ (List.mem_append_right _ (List.mem_append_right _ (List.mem_append_right _ (List.mem_append_right _ (List.mem_append_right _ (List.mem_append_right _ (List.mem_append_right _ (List.mem_append_right _ (List.mem_append_right _ (List.mem_append_left _ h)))))))))), fun w h => List.mem_append_right _ (List.mem_append_right _ (List.mem_append_right _ (List.mem_append_right _ (List.mem_append_right _ (List.mem_append_right _ (List.mem_append_right _ (List.mem_append_right _ (List.mem_append_right _ (List.mem_append_right _ (List.mem_append_right _ (List.mem_append_left _ h))))))))))), fun w h => List.mem_append_right _ (List.mem_append_right _ (List.mem_append_right _ (List.mem_append_right _ (List.mem_append_right _ (List.mem_append_right _ (List.mem_append_right _ (List.mem_append_right _ (List.mem_append_right _ (List.mem_append_right _ (List.mem_append_right _ (List.mem_append_right _ (List.mem_append_left _ h)))))))))))), fun w h => List.mem_append_right _ (List.mem_append_right _ (List.mem_append_right _ (List.mem_append_right _ (List.mem_append_right _ (List.mem_append_right _ (List.mem_append_right _ (List.mem_append_right _ (List.mem_append_right _ (List.mem_append_right _ (List.mem_append_right _ (List.mem_append_right _ (List.mem_append_right _ h)))))))))))), fun _ h => absurd h List.not_mem_nil⟩
theorem pg_tb_in {i : Nat} {w : Cond} (h : pg_tb i = some w) : w ∈ tables_1 := by
  unfold pg_tb at h
  have h1 := List.mem_of_getElem? h
  rw [List.getD_eq_getElem?_getD] at h1
  cases h3 : pg_tbl[i / 240]? with
  | some L => rw [h3] at h1; exact pg_tbm L (List.mem_of_getElem? h3) w h1
  | none => rw [h3] at h1; exact absurd h1 List.not_mem_nil
theorem pg_at {i : Nat} {w : Cond} (h : pg_tb i = some w) (hg : goodWord w = true) : w ∈ pg_Ts := List.mem_filter.mpr ⟨pg_tb_in h, hg⟩
def pg_MC : Nat := 601024
def pg_MS : Nat := 7293034
def pg_on : List String := ["LinkHouse", "LinkHouse$Filler", "LinkHouse$Layout", "LinkHouse$Link", "LinkHouse$Memory", "LinkHouse$Name", "LinkHouse$Names", "LinkHouse$ObjectFile", "LinkHouse$Part", "LinkHouse$Pool", "LinkHouse$Row", "LinkHouse$Scribe", "LinkHouseModel", "java/lang/IllegalArgumentException", "java/lang/IllegalStateException", "java/util/NoSuchElementException", "LinkHouseLaw", "java/util/Arrays", "java/lang/String", "java/lang/StringLatin1", "jdk/internal/util/Preconditions"]
def pg_cn (ci : Nat) : String := pg_on.getD ci ""
def pg_ty : List FieldType := [.byte, .int, .long, .boolean, .object "LinkHouse$ObjectFile", .object "LinkHouse$Name", .object "LinkHouse$Part"]
def pg_FL : List (List (String × String × String × Bool)) := [
  [("LinkHouse", "tape", "LLinkHouse$Row;", true), ("LinkHouse", "out", "LLinkHouse$Row;", false), ("LinkHouse", "draft", "LLinkHouse$Row;", false), ("LinkHouse", "store", "LLinkHouse$Row;", true), ("LinkHouse", "members", "[LLinkHouse$ObjectFile;", true), ("LinkHouse", "ends", "[I", true), ("LinkHouse", "files", "I", false), ("LinkHouse", "marks", "[I", true), ("LinkHouse", "given", "LLinkHouse$Names;", true), ("LinkHouse", "wished", "LLinkHouse$Names;", true), ("LinkHouse", "probe", "LLinkHouse$Name;", true), ("LinkHouse", "link", "LLinkHouse$Link;", true), ("LinkHouse", "pool", "LLinkHouse$Pool;", true), ("LinkHouse", "layout", "LLinkHouse$Layout;", true), ("LinkHouse", "filler", "LLinkHouse$Filler;", true), ("LinkHouse", "scribe", "LLinkHouse$Scribe;", true), ("LinkHouse", "memory", "LLinkHouse$Memory;", true), ("LinkHouse", "bootError", "I", false)],
  [("LinkHouse$Filler", "link", "LLinkHouse$Link;", true), ("LinkHouse$Filler", "layout", "LLinkHouse$Layout;", true), ("LinkHouse$Filler", "pool", "LLinkHouse$Pool;", true), ("LinkHouse$Filler", "store", "LLinkHouse$Row;", true), ("LinkHouse$Filler", "file", "LLinkHouse$Row;", true)],
  [("LinkHouse$Layout", "link", "LLinkHouse$Link;", true), ("LinkHouse$Layout", "pool", "LLinkHouse$Pool;", true), ("LinkHouse$Layout", "order", "[LLinkHouse$Part;", true), ("LinkHouse$Layout", "noPart", "LLinkHouse$Part;", true), ("LinkHouse$Layout", "there", "[Z", true), ("LinkHouse$Layout", "filePlace", "[J", true), ("LinkHouse$Layout", "base", "[J", true), ("LinkHouse$Layout", "fileBytes", "[J", true), ("LinkHouse$Layout", "memoryBytes", "[J", true), ("LinkHouse$Layout", "slots", "[I", true), ("LinkHouse$Layout", "localSlots", "[I", true), ("LinkHouse$Layout", "count", "I", false), ("LinkHouse$Layout", "slotCount", "I", false), ("LinkHouse$Layout", "slotPlace", "J", false), ("LinkHouse$Layout", "textEnd", "J", false), ("LinkHouse$Layout", "bssStart", "J", false), ("LinkHouse$Layout", "threadAlign", "J", false), ("LinkHouse$Layout", "tp", "J", false), ("LinkHouse$Layout", "fileSize", "J", false)],
  [("LinkHouse$Link", "members", "[LLinkHouse$ObjectFile;", true), ("LinkHouse$Link", "given", "LLinkHouse$Names;", true), ("LinkHouse$Link", "wished", "LLinkHouse$Names;", true), ("LinkHouse$Link", "names", "LLinkHouse$Names;", true), ("LinkHouse$Link", "parts", "[LLinkHouse$Part;", true), ("LinkHouse$Link", "noPart", "LLinkHouse$Part;", true), ("LinkHouse$Link", "objects", "[LLinkHouse$ObjectFile;", true), ("LinkHouse$Link", "noObject", "LLinkHouse$ObjectFile;", true), ("LinkHouse$Link", "symbolNames", "[LLinkHouse$Name;", true), ("LinkHouse$Link", "order", "[LLinkHouse$Name;", true), ("LinkHouse$Link", "queue", "[LLinkHouse$Part;", true), ("LinkHouse$Link", "probe", "LLinkHouse$Name;", true), ("LinkHouse$Link", "start", "LLinkHouse$Name;", true), ("LinkHouse$Link", "blamed", "LLinkHouse$Name;", false), ("LinkHouse$Link", "taken", "I", false), ("LinkHouse$Link", "ordered", "I", false), ("LinkHouse$Link", "queued", "I", false), ("LinkHouse$Link", "dropped", "I", false), ("LinkHouse$Link", "answer", "I", false), ("LinkHouse$Link", "overrun", "J", false)],
  [("LinkHouse$Memory", "bytes", "LLinkHouse$Row;", true), ("LinkHouse$Memory", "starts", "[J", true), ("LinkHouse$Memory", "sizes", "[J", true), ("LinkHouse$Memory", "fileSizes", "[J", true), ("LinkHouse$Memory", "places", "[I", true), ("LinkHouse$Memory", "flagBits", "[J", true), ("LinkHouse$Memory", "rows", "I", false), ("LinkHouse$Memory", "entry", "J", false), ("LinkHouse$Memory", "symbolPlace", "I", false), ("LinkHouse$Memory", "symbols", "I", false), ("LinkHouse$Memory", "namePlace", "I", false), ("LinkHouse$Memory", "nameSize", "I", false), ("LinkHouse$Memory", "named", "I", false)],
  [("LinkHouse$Name", "low", "J", false), ("LinkHouse$Name", "mid", "J", false), ("LinkHouse$Name", "high", "J", false), ("LinkHouse$Name", "length", "I", false), ("LinkHouse$Name", "strength", "I", false), ("LinkHouse$Name", "home", "I", false), ("LinkHouse$Name", "part", "LLinkHouse$Part;", false), ("LinkHouse$Name", "value", "J", false), ("LinkHouse$Name", "size", "J", false), ("LinkHouse$Name", "info", "I", false), ("LinkHouse$Name", "missed", "Z", false), ("LinkHouse$Name", "wished", "Z", false), ("LinkHouse$Name", "signature", "Z", false), ("LinkHouse$Name", "stays", "Z", false), ("LinkHouse$Name", "address", "J", false), ("LinkHouse$Name", "slot", "I", false), ("LinkHouse$Name", "threadSlot", "I", false), ("LinkHouse$Name", "number", "I", false)],
  [("LinkHouse$Names", "names", "[LLinkHouse$Name;", true), ("LinkHouse$Names", "none", "LLinkHouse$Name;", true), ("LinkHouse$Names", "count", "I", false)],
  [("LinkHouse$ObjectFile", "store", "LLinkHouse$Row;", true), ("LinkHouse$ObjectFile", "file", "I", true), ("LinkHouse$ObjectFile", "member", "I", true), ("LinkHouse$ObjectFile", "groups", "[B", true), ("LinkHouse$ObjectFile", "kind", "I", false), ("LinkHouse$ObjectFile", "base", "I", false), ("LinkHouse$ObjectFile", "size", "I", false), ("LinkHouse$ObjectFile", "rows", "I", false), ("LinkHouse$ObjectFile", "sections", "I", false), ("LinkHouse$ObjectFile", "symbolsAt", "I", false), ("LinkHouse$ObjectFile", "symbolPlace", "I", false), ("LinkHouse$ObjectFile", "symbols", "I", false), ("LinkHouse$ObjectFile", "namePlace", "I", false), ("LinkHouse$ObjectFile", "nameSize", "I", false), ("LinkHouse$ObjectFile", "stringsBits", "I", false), ("LinkHouse$ObjectFile", "taken", "Z", false), ("LinkHouse$ObjectFile", "cause", "I", false)],
  [("LinkHouse$Part", "object", "I", false), ("LinkHouse$Part", "file", "I", false), ("LinkHouse$Part", "member", "I", false), ("LinkHouse$Part", "number", "I", false), ("LinkHouse$Part", "group", "I", false), ("LinkHouse$Part", "size", "I", false), ("LinkHouse$Part", "align", "I", false), ("LinkHouse$Part", "start", "I", false), ("LinkHouse$Part", "state", "I", false), ("LinkHouse$Part", "stays", "Z", false), ("LinkHouse$Part", "strings", "Z", false), ("LinkHouse$Part", "address", "J", false), ("LinkHouse$Part", "fresh", "I", false)],
  [("LinkHouse$Pool", "store", "LLinkHouse$Row;", true), ("LinkHouse$Pool", "starts", "[I", true), ("LinkHouse$Pool", "lengths", "[I", true), ("LinkHouse$Pool", "count", "I", false), ("LinkHouse$Pool", "size", "I", false), ("LinkHouse$Pool", "address", "J", false)],
  [("LinkHouse$Row", "bytes", "[B", true), ("LinkHouse$Row", "size", "I", false), ("LinkHouse$Row", "over", "Z", false)],
  [("LinkHouse$Scribe", "link", "LLinkHouse$Link;", true), ("LinkHouse$Scribe", "layout", "LLinkHouse$Layout;", true), ("LinkHouse$Scribe", "store", "LLinkHouse$Row;", true), ("LinkHouse$Scribe", "rows", "LLinkHouse$Row;", true), ("LinkHouse$Scribe", "locals", "[I", true), ("LinkHouse$Scribe", "listed", "[LLinkHouse$Name;", true), ("LinkHouse$Scribe", "listedCount", "I", false), ("LinkHouse$Scribe", "localCount", "I", false), ("LinkHouse$Scribe", "symbolsSection", "I", false)],
  [("LinkHouseModel", "thrown", "I", false), ("LinkHouseModel", "tape", "[B", true), ("LinkHouseModel", "tapeSize", "I", false), ("LinkHouseModel", "out", "[B", true), ("LinkHouseModel", "outSize", "I", false), ("LinkHouseModel", "files", "I", false), ("LinkHouseModel", "bytes", "[B", true), ("LinkHouseModel", "fileSize", "[I", true), ("LinkHouseModel", "memberCount", "[I", true), ("LinkHouseModel", "memberAt", "[I", true), ("LinkHouseModel", "memberSize", "[I", true), ("LinkHouseModel", "isArchive", "[Z", true), ("LinkHouseModel", "isSkipped", "[Z", true), ("LinkHouseModel", "answer", "I", false), ("LinkHouseModel", "takenMany", "I", false), ("LinkHouseModel", "segments", "I", false), ("LinkHouseModel", "ranOver", "J", false), ("LinkHouseModel", "taken", "[I", true), ("LinkHouseModel", "isTaken", "[Z", true), ("LinkHouseModel", "wasThere", "[Z", true), ("LinkHouseModel", "names", "I", false), ("LinkHouseModel", "nameText", "[B", true), ("LinkHouseModel", "nameLength", "[I", true), ("LinkHouseModel", "strength", "[I", true), ("LinkHouseModel", "byObject", "[I", true), ("LinkHouseModel", "bySymbol", "[I", true), ("LinkHouseModel", "commonSize", "[I", true), ("LinkHouseModel", "commonValue", "[I", true), ("LinkHouseModel", "isWanted", "[Z", true), ("LinkHouseModel", "nameAddress", "[J", true), ("LinkHouseModel", "nameGiven", "[J", true), ("LinkHouseModel", "givenMany", "I", false), ("LinkHouseModel", "wishedMany", "I", false), ("LinkHouseModel", "givenText", "[B", true), ("LinkHouseModel", "wishedText", "[B", true), ("LinkHouseModel", "givenLength", "[I", true), ("LinkHouseModel", "wishedLength", "[I", true), ("LinkHouseModel", "givenValue", "[J", true), ("LinkHouseModel", "nameInfo", "[I", true), ("LinkHouseModel", "nameSegment", "[I", true), ("LinkHouseModel", "causeName", "[I", true), ("LinkHouseModel", "nameSize", "[J", true), ("LinkHouseModel", "linked", "[B", true), ("LinkHouseModel", "linkedSize", "I", false), ("LinkHouseModel", "memoryNames", "I", false), ("LinkHouseModel", "memoryAt", "[I", true), ("LinkHouseModel", "memoryLength", "[I", true), ("LinkHouseModel", "memoryValue", "[J", true), ("LinkHouseModel", "defined", "I", false), ("LinkHouseModel", "definedName", "[I", true), ("LinkHouseModel", "laid", "I", false), ("LinkHouseModel", "laidObject", "[I", true), ("LinkHouseModel", "laidFile", "[I", true), ("LinkHouseModel", "laidMember", "[I", true), ("LinkHouseModel", "laidNumber", "[I", true), ("LinkHouseModel", "laidGroup", "[I", true), ("LinkHouseModel", "laidSize", "[I", true), ("LinkHouseModel", "laidAddress", "[J", true), ("LinkHouseModel", "sectionAddress", "[J", true), ("LinkHouseModel", "isThere", "[Z", true), ("LinkHouseModel", "filePlace", "[J", true), ("LinkHouseModel", "segmentAddress", "[J", true), ("LinkHouseModel", "fileBytes", "[J", true), ("LinkHouseModel", "memoryBytes", "[J", true), ("LinkHouseModel", "fileEnd", "J", false), ("LinkHouseModel", "dropped", "[Z", true), ("LinkHouseModel", "reachedSection", "[Z", true), ("LinkHouseModel", "reachedName", "[Z", true), ("LinkHouseModel", "onlyReached", "Z", false), ("LinkHouseModel", "droppedMany", "I", false), ("LinkHouseModel", "signs", "I", false), ("LinkHouseModel", "signAt", "[I", true), ("LinkHouseModel", "signEnd", "[I", true), ("LinkHouseModel", "ownKind", "[I", true), ("LinkHouseModel", "slots", "I", false), ("LinkHouseModel", "slotName", "[I", true), ("LinkHouseModel", "slotObject", "[I", true), ("LinkHouseModel", "slotSymbol", "[I", true), ("LinkHouseModel", "slotThread", "[Z", true), ("LinkHouseModel", "slotPlace", "J", false), ("LinkHouseModel", "textEnd", "J", false), ("LinkHouseModel", "bssPlace", "J", false), ("LinkHouseModel", "hasTemplate", "Z", false), ("LinkHouseModel", "templateBegin", "J", false), ("LinkHouseModel", "templateFile", "J", false), ("LinkHouseModel", "templateMemory", "J", false), ("LinkHouseModel", "templateAlign", "J", false), ("LinkHouseModel", "threadPoint", "J", false), ("LinkHouseModel", "poolSize", "I", false), ("LinkHouseModel", "nodes", "I", false), ("LinkHouseModel", "poolPlace", "J", false), ("LinkHouseModel", "pool", "[B", true), ("LinkHouseModel", "child", "[I", true), ("LinkHouseModel", "sibling", "[I", true), ("LinkHouseModel", "poolEnd", "[I", true), ("LinkHouseModel", "letter", "[B", true), ("LinkHouseModel", "inGroup", "[Z", true), ("LinkHouseModel", "ownText", "[B", true), ("LinkHouseModel", "changed", "Z", false), ("LinkHouseModel", "tried", "[B", true), ("LinkHouseModel", "image", "[B", true), ("LinkHouseModel", "triedSize", "I", false), ("LinkHouseModel", "loaded", "I", false), ("LinkHouseModel", "bootError", "I", false), ("LinkHouseModel", "entry", "J", false), ("LinkHouseModel", "rowFlags", "[J", true), ("LinkHouseModel", "rowPlace", "[J", true), ("LinkHouseModel", "rowAddress", "[J", true), ("LinkHouseModel", "rowFile", "[J", true), ("LinkHouseModel", "rowMemory", "[J", true), ("LinkHouseModel", "newFlags", "[J", true), ("LinkHouseModel", "newPlace", "[J", true), ("LinkHouseModel", "newAddress", "[J", true), ("LinkHouseModel", "newFile", "[J", true), ("LinkHouseModel", "newMemory", "[J", true), ("LinkHouseModel", "newRows", "I", false), ("LinkHouseModel", "startText", "[B", true), ("LinkHouseModel", "newSection", "[I", true), ("LinkHouseModel", "newSymbol", "[I", true), ("LinkHouseModel", "newName", "[I", true), ("LinkHouseModel", "partObject", "[I", true), ("LinkHouseModel", "partNumber", "[I", true), ("LinkHouseModel", "nameAtPlace", "[I", true), ("LinkHouseModel", "parts", "I", false), ("LinkHouseModel", "firstName", "I", false), ("LinkHouseModel", "allSymbols", "I", false), ("LinkHouseModel", "isFull", "Z", false), ("LinkHouseModel", "objects", "I", false), ("LinkHouseModel", "objectAt", "[I", true), ("LinkHouseModel", "objectSize", "[I", true)],
  [],
  [],
  []]
def pg_T (ci : Nat) : u_T := fun k => (pg_FL.getD ci []).getD k ("", "", "", false)
def pg_nfl : List Nat := [18, 5, 19, 20, 13, 18, 3, 17, 13, 6, 3, 9, 130, 0, 0, 0]
def pg_nf (ci : Nat) : Nat := pg_nfl.getD ci 0
def pg_cl : List vw_C := (List.range 16).map (fun ci => (pg_cn ci, pg_T ci, pg_nf ci))
def pg_ftl : List (List FieldType) := [
  [(.object "LinkHouse$Row"), (.object "LinkHouse$Row"), (.object "LinkHouse$Row"), (.object "LinkHouse$Row"), (.array (.object "LinkHouse$ObjectFile")), (.array .int), .int, (.array .int), (.object "LinkHouse$Names"), (.object "LinkHouse$Names"), (.object "LinkHouse$Name"), (.object "LinkHouse$Link"), (.object "LinkHouse$Pool"), (.object "LinkHouse$Layout"), (.object "LinkHouse$Filler"), (.object "LinkHouse$Scribe"), (.object "LinkHouse$Memory"), .int],
  [(.object "LinkHouse$Link"), (.object "LinkHouse$Layout"), (.object "LinkHouse$Pool"), (.object "LinkHouse$Row"), (.object "LinkHouse$Row")],
  [(.object "LinkHouse$Link"), (.object "LinkHouse$Pool"), (.array (.object "LinkHouse$Part")), (.object "LinkHouse$Part"), (.array .boolean), (.array .long), (.array .long), (.array .long), (.array .long), (.array .int), (.array .int), .int, .int, .long, .long, .long, .long, .long, .long],
  [(.array (.object "LinkHouse$ObjectFile")), (.object "LinkHouse$Names"), (.object "LinkHouse$Names"), (.object "LinkHouse$Names"), (.array (.object "LinkHouse$Part")), (.object "LinkHouse$Part"), (.array (.object "LinkHouse$ObjectFile")), (.object "LinkHouse$ObjectFile"), (.array (.object "LinkHouse$Name")), (.array (.object "LinkHouse$Name")), (.array (.object "LinkHouse$Part")), (.object "LinkHouse$Name"), (.object "LinkHouse$Name"), (.object "LinkHouse$Name"), .int, .int, .int, .int, .int, .long],
  [(.object "LinkHouse$Row"), (.array .long), (.array .long), (.array .long), (.array .int), (.array .long), .int, .long, .int, .int, .int, .int, .int],
  [.long, .long, .long, .int, .int, .int, (.object "LinkHouse$Part"), .long, .long, .int, .boolean, .boolean, .boolean, .boolean, .long, .int, .int, .int],
  [(.array (.object "LinkHouse$Name")), (.object "LinkHouse$Name"), .int],
  [(.object "LinkHouse$Row"), .int, .int, (.array .byte), .int, .int, .int, .int, .int, .int, .int, .int, .int, .int, .int, .boolean, .int],
  [.int, .int, .int, .int, .int, .int, .int, .int, .int, .boolean, .boolean, .long, .int],
  [(.object "LinkHouse$Row"), (.array .int), (.array .int), .int, .int, .long],
  [(.array .byte), .int, .boolean],
  [(.object "LinkHouse$Link"), (.object "LinkHouse$Layout"), (.object "LinkHouse$Row"), (.object "LinkHouse$Row"), (.array .int), (.array (.object "LinkHouse$Name")), .int, .int, .int],
  [.int, (.array .byte), .int, (.array .byte), .int, .int, (.array .byte), (.array .int), (.array .int), (.array .int), (.array .int), (.array .boolean), (.array .boolean), .int, .int, .int, .long, (.array .int), (.array .boolean), (.array .boolean), .int, (.array .byte), (.array .int), (.array .int), (.array .int), (.array .int), (.array .int), (.array .int), (.array .boolean), (.array .long), (.array .long), .int, .int, (.array .byte), (.array .byte), (.array .int), (.array .int), (.array .long), (.array .int), (.array .int), (.array .int), (.array .long), (.array .byte), .int, .int, (.array .int), (.array .int), (.array .long), .int, (.array .int), .int, (.array .int), (.array .int), (.array .int), (.array .int), (.array .int), (.array .int), (.array .long), (.array .long), (.array .boolean), (.array .long), (.array .long), (.array .long), (.array .long), .long, (.array .boolean), (.array .boolean), (.array .boolean), .boolean, .int, .int, (.array .int), (.array .int), (.array .int), .int, (.array .int), (.array .int), (.array .int), (.array .boolean), .long, .long, .long, .boolean, .long, .long, .long, .long, .long, .int, .int, .long, (.array .byte), (.array .int), (.array .int), (.array .int), (.array .byte), (.array .boolean), (.array .byte), .boolean, (.array .byte), (.array .byte), .int, .int, .int, .long, (.array .long), (.array .long), (.array .long), (.array .long), (.array .long), (.array .long), (.array .long), (.array .long), (.array .long), (.array .long), .int, (.array .byte), (.array .int), (.array .int), (.array .int), (.array .int), (.array .int), (.array .int), .int, .int, .int, .boolean, .int, (.array .int), (.array .int)],
  [],
  [],
  []]
def pg_ftp (ci k : Nat) : FieldType := (pg_ftl.getD ci []).getD k .int
def pg_inl : List Nat := [18, 5, 19, 20, 13, 18, 3, 17, 13, 6, 3, 9, 130, 6, 6, 6]
def pg_in (ci : Nat) : Nat := pg_inl.getD ci 0
def pg_nc : Nat := 7
def pg_sf : List (String × String × String × Nat) := [("LinkHouse", "ARCHIVE", "[B", 1), ("LinkHouse", "SEGMENT_FLAGS", "[I", 2), ("LinkHouse", "ELF", "[B", 3), ("LinkHouse", "LAYOUT_ORDER", "[I", 4), ("LinkHouse", "SEGMENT_OF", "[I", 5), ("LinkHouse", "ROW_FLAGS", "[I", 6)]
def pg_ksl : List (String × Nat × String) := [("LinkHouse", 115, "n is not 1 .. 8"), ("LinkHouse", 126, "the tape is full"), ("LinkHouse", 136, "there are 8 files"), ("LinkHouse", 148, "there is no file"), ("LinkHouse", 166, "the tape is no name"), ("LinkHouse", 175, "it is given already, or 16 are"), ("LinkHouse", 184, "it is wished already, or 16 are"), ("LinkHouse", 193, "the latest link was not done"), ("LinkHouse", 234, "no such object"), ("LinkHouse", 241, "no such object, or group"), ("LinkHouse", 264, "no such file, or member"), ("LinkHouse", 275, "no such section, or no such what"), ("LinkHouse", 295, "no such section"), ("LinkHouse", 315, "OUT has no such byte"), ("LinkHouse", 321, "no such what"), ("LinkHouse$Link", 73, "_start"), ("LinkHouse$Link", 146, "_etext"), ("LinkHouse$Link", 152, "_edata"), ("LinkHouse$Link", 154, "__bss_start"), ("LinkHouse$Link", 156, "_end"), ("LinkHouse$Scribe", 106, "TRDBDB"), ("java/util/Arrays", 48, "fromIndex("), ("java/util/Arrays", 57, ") > toIndex("), ("java/util/Arrays", 59, ")")]
def pg_xtl : List (List (Nat × Nat × Nat × Nat)) := [
  [(0, 11, 14, 13), (0, 11, 18, 15)],
  [(0, 8, 11, 15)],
  [(0, 8, 11, 15)],
  [(0, 9, 12, 13), (0, 9, 16, 15)],
  [(0, 8, 11, 13), (0, 8, 14, 15)],
  [(0, 8, 11, 15)],
  [(0, 10, 13, 38)],
  [(0, 11, 14, 38)],
  [(0, 8, 11, 15)],
  [(0, 7, 10, 15)],
  [(0, 17, 20, 38)],
  [(0, 10, 13, 38)],
  [(0, 10, 13, 15), (0, 10, 17, 38)],
  [(0, 8, 11, 15), (0, 8, 14, 38)],
  [(0, 8, 11, 38)],
  [(0, 8, 11, 13)]]
def pg_xt (mi : Nat) : List (Nat × Nat × Nat × Nat) := if mi < 382 then [] else pg_xtl.getD (mi - 382) []
def pg_rix : List Nat := [19, 20, 21, 22, 23, 30, 36, 37, 38, 44, 76, 157, 165, 278, 287, 510, 543, 630, 656, 693, 1049, 1050, 1051, 1052, 1053, 1054, 1055, 1056, 1057, 1058, 1059, 1060, 1061, 1062, 1063, 1064, 1065, 1066, 1067, 1068, 1069, 1070, 1071, 1072, 1073, 1074, 1075, 1076, 1077, 1078, 1079, 1080, 1081, 1082, 1083, 1084, 1085, 1086, 1087, 1088, 1089, 1098, 1257, 1282, 1283, 1284, 1285, 1286, 1287, 1288, 1289, 1290, 1291, 1292, 1293, 1294, 1295, 1296, 1297, 1298, 1299, 1300, 1301, 1302, 1303, 1304, 1305, 1306, 1820, 1821, 1826, 1828, 1829, 1830, 1831, 1832, 1833, 1834, 1835, 1836, 1837, 1839, 1840, 1841, 1842, 1843, 1844, 2031, 2044, 2045, 2046, 2047, 2048, 2049, 2050, 2051, 2052, 2054, 2055, 2056, 2057, 2058, 2059, 2170, 3272]
def pg_ki : List Int32 := [65536, 65522, 65521, 32769, 1000000000, 81920, 65540]
def pg_kl : List Int64 := [18, 2, 4, 9, 11, 22, 23, 41, 42, -1, -9223372036854775808, 2656, 10, 48, 4096, 16, 62, 64, 56, 139, 141, 21, 59495, 233, 144, 8, 4194304, 4095, 65536, 17, 24, -4, 140737488355328, 3, 16384, 1024, 1536, 47, 111, 32, 46, 738142165265366049, 282584257676671, -2147483648, 2147483647, 5, 6, 7, 65521, 15, 4294967295]
def pg_nsx : List Nat := [162, 272, 284, 364, 545, 1386, 1516, 1611, 1726, 1779, 1896, 1910, 1950, 1020, 1370, 1441, 1468, 1666, 1691, 1767, 1885, 2024]
def pg_Ns : List Cond := pg_nsx.filterMap pg_tb
def pg_isN : Cond → Bool
  | .fieldLinkNest .. => true
  | .methodLinkNest .. => true
  | _ => false
theorem pg_nsb : pg_Ns.all pg_isN = true := by decide +kernel
theorem pg_nsf (w : Cond) (h : w ∈ pg_Ns) : (∃ a i b n d q, w = .fieldLinkNest a i b n d q) ∨ ∃ a i x q, w = .methodLinkNest a i x q := by
  have h1 := List.all_eq_true.mp pg_nsb w h
  cases w <;> first | (simp [pg_isN] at h1; done) | exact Or.inl ⟨_, _, _, _, _, _, rfl⟩ | exact Or.inr ⟨_, _, _, _, rfl⟩
def pg_Ao : List String := ["LinkHouse$ObjectFile", "LinkHouse$Name", "LinkHouse$Part"]
def pg_lix : List (List Nat) := [
  [759, 761, 763, 765, 767, 769, 771, 773, 775, 777, 779, 781, 783, 785, 787, 789, 791, 793],
  [640, 642, 644, 646, 648],
  [584, 586, 588, 590, 592, 594, 596, 598, 600, 602, 604, 606, 608, 610, 612, 614, 616, 618, 620],
  [464, 466, 468, 470, 472, 474, 476, 478, 480, 482, 484, 486, 488, 490, 492, 494, 496, 498, 500, 502],
  [714, 716, 718, 720, 722, 724, 726, 728, 730, 732, 734, 736, 738],
  [218, 220, 222, 224, 226, 228, 230, 232, 234, 236, 238, 240, 242, 244, 246, 248, 250, 252],
  [264, 266, 268],
  [117, 119, 121, 123, 125, 127, 129, 131, 133, 135, 137, 139, 141, 143, 145, 147, 149],
  [334, 336, 338, 340, 342, 344, 346, 348, 350, 352, 354, 356, 358],
  [525, 527, 529, 531, 533, 535],
  [61, 63, 65],
  [669, 671, 673, 675, 677, 679, 681, 683, 685],
  [2304, 2306, 2308, 2310, 2312, 2314, 2316, 2318, 2320, 2322, 2324, 2326, 2328, 2330, 2332, 2334, 2336, 2338, 2340, 2342, 2344, 2346, 2348, 2350, 2352, 2354, 2356, 2358, 2360, 2362, 2364, 2366, 2368, 2370, 2372, 2374, 2376, 2378, 2380, 2382, 2384, 2386, 2388, 2390, 2392, 2394, 2396, 2398, 2400, 2402, 2404, 2406, 2408, 2410, 2412, 2414, 2416, 2418, 2420, 2422, 2424, 2426, 2428, 2430, 2432, 2434, 2436, 2438, 2440, 2442, 2444, 2446, 2448, 2450, 2452, 2454, 2456, 2458, 2460, 2462, 2464, 2466, 2468, 2470, 2472, 2474, 2476, 2478, 2480, 2482, 2484, 2486, 2488, 2490, 2492, 2494, 2496, 2498, 2500, 2502, 2504, 2506, 2508, 2510, 2512, 2514, 2516, 2518, 2520, 2522, 2524, 2526, 2528, 2530, 2532, 2534, 2536, 2538, 2540, 2542, 2544, 2546, 2548, 2550, 2552, 2554, 2556, 2558, 2560, 2562],
  [],
  [],
  []]
def pg_iix : List Nat := [32, 626, 539, 274, 689, 161, 153, 72, 283, 506, 40, 652, 2166, 1050, 1830, 2045]
def pg_jix : List Nat := [1, 15, 14, 7, 17, 6, 5, 4, 8, 13, 2, 16, 18, 22, 23, 30]
def pg_clck (ci : Nat) : Bool :=
  (List.range (pg_nf ci)).all (fun k => decide (parseFieldDescriptor (pg_T ci k).2.2.1 = some (pg_ftp ci k)) && (List.range (pg_nf ci)).all (fun j => decide (k = j) || decide ((pg_T ci k).2.1 ≠ (pg_T ci j).2.1)) && decide (pg_tb ((pg_lix.getD ci []).getD k 0) = some (u_lay (pg_cn ci) (pg_T ci) k)) && goodWord (u_lay (pg_cn ci) (pg_T ci) k)) &&
  (decide (pg_tb (pg_iix.getD ci 0) = some (Cond.instantiable (pg_cn ci) (pg_in ci))) && (goodWord (Cond.instantiable (pg_cn ci) (pg_in ci)) && (decide (pg_tb (pg_jix.getD ci 0) = some (Cond.initialized (pg_cn ci))) && goodWord (Cond.initialized (pg_cn ci)))))
theorem pg_clck_0 : pg_clck 0 = true := by decide +kernel
theorem pg_clck_1 : pg_clck 1 = true := by decide +kernel
theorem pg_clck_2 : pg_clck 2 = true := by decide +kernel
theorem pg_clck_3 : pg_clck 3 = true := by decide +kernel
theorem pg_clck_4 : pg_clck 4 = true := by decide +kernel
theorem pg_clck_5 : pg_clck 5 = true := by decide +kernel
theorem pg_clck_6 : pg_clck 6 = true := by decide +kernel
theorem pg_clck_7 : pg_clck 7 = true := by decide +kernel
theorem pg_clck_8 : pg_clck 8 = true := by decide +kernel
theorem pg_clck_9 : pg_clck 9 = true := by decide +kernel
theorem pg_clck_10 : pg_clck 10 = true := by decide +kernel
theorem pg_clck_11 : pg_clck 11 = true := by decide +kernel
theorem pg_clck_12 : pg_clck 12 = true := by decide +kernel
theorem pg_clck_13 : pg_clck 13 = true := by decide +kernel
theorem pg_clck_14 : pg_clck 14 = true := by decide +kernel
theorem pg_clck_15 : pg_clck 15 = true := by decide +kernel
theorem pg_clok : ∀ ci, ci < 16 → pg_clck ci = true := by
  have h : ∀ ci ∈ [0, 1, 2, 3, 4, 5, 6, 7, 8, 9, 10, 11, 12, 13, 14, 15], pg_clck ci = true := by
    simp only [List.forall_mem_cons]
    exact ⟨pg_clck_0, pg_clck_1, pg_clck_2, pg_clck_3, pg_clck_4, pg_clck_5, pg_clck_6, pg_clck_7, pg_clck_8, pg_clck_9, pg_clck_10, pg_clck_11, pg_clck_12, pg_clck_13, pg_clck_14, pg_clck_15, fun _ h => absurd h List.not_mem_nil⟩
  exact fun ci hc => h ci (by have := List.mem_range.mpr hc; exact this)
theorem pg_cla {ci : Nat} {C : String} {T : u_T} {N : Nat} (h : pg_cl[ci]? = some (C, T, N)) : ci < 16 ∧ C = pg_cn ci ∧ T = pg_T ci ∧ N = pg_nf ci := by
  have hlt : ci < 16 := by
    have := (List.getElem?_eq_some_iff.mp h).1
    simpa [pg_cl] using this
  simp only [pg_cl, List.getElem?_map, List.getElem?_range hlt, Option.map_some, Option.some.injEq, Prod.mk.injEq] at h
  exact ⟨hlt, h.1.symm, h.2.1.symm, h.2.2.symm⟩
theorem pg_clb {ci : Nat} (h : ci < 16) : pg_cl[ci]? = some (pg_cn ci, pg_T ci, pg_nf ci) := by
  simp only [pg_cl, List.getElem?_map, List.getElem?_range h, Option.map_some]
theorem pg_cls {ci : Nat} {C : String} {T : u_T} {N : Nat} (h : pg_cl[ci]? = some (C, T, N)) : (∀ k, k < N → parseFieldDescriptor (T k).2.2.1 = some (pg_ftp ci k)) ∧ ∀ a, a < N → ∀ b, b < N → a ≠ b → (T a).2.1 ≠ (T b).2.1 := by
  obtain ⟨hlt, rfl, rfl, rfl⟩ := pg_cla h
  have h1 := pg_clok ci hlt
  simp only [pg_clck, Bool.and_eq_true, List.all_eq_true, List.mem_range, decide_eq_true_eq, Bool.or_eq_true] at h1
  exact ⟨fun k hk => (h1.1 k hk).1.1.1, fun a ha b hb hne => ((h1.1 a ha).1.1.2 b hb).resolve_left hne⟩
theorem pg_cin {ci : Nat} {C : String} {T : u_T} {N : Nat} (h : pg_cl[ci]? = some (C, T, N)) : ∀ w ∈ u_ws C T N, w ∈ pg_Ts := by
  obtain ⟨hlt, rfl, rfl, rfl⟩ := pg_cla h
  have h1 := pg_clok ci hlt
  simp only [pg_clck, Bool.and_eq_true, List.all_eq_true, List.mem_range, decide_eq_true_eq, Bool.or_eq_true] at h1
  intro w hw
  obtain ⟨k, hk, rfl⟩ := List.mem_map.mp hw
  have h2 := h1.1 k (List.mem_range.mp hk)
  exact pg_at h2.1.2 h2.2
theorem pg_cii {ci : Nat} (hlt : ci < 16) : Cond.instantiable (pg_cn ci) (pg_in ci) ∈ pg_Ts ∧ Cond.initialized (pg_cn ci) ∈ pg_Ts := by
  have h1 := pg_clok ci hlt
  simp only [pg_clck, Bool.and_eq_true, decide_eq_true_eq] at h1
  exact ⟨pg_at h1.2.1 h1.2.2.1, pg_at h1.2.2.2.1 h1.2.2.2.2⟩
