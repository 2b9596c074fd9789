section
/-! the tables of the pure machine: classes, fields, methods, links, printed by a program (wip/tools/gen01.py) out of claim/Statement.lean -/
def pg_Ts : List Cond := tables_1.filter goodWord
theorem pg_good (w : Cond) (h : w ∈ pg_Ts) : (w.onTables && w.keeps) = true ∨ ∃ ty, w = .arrayClass ty := good_of_word (List.mem_filter.mp h).2
def pg_tbl : List (List Cond) := [tables_1_1, tables_1_2, tables_1_3, tables_1_4, tables_1_5, tables_1_6, tables_1_7, tables_1_8, tables_1_9, tables_1_10, tables_1_11, tables_1_12, tables_1_13, tables_1_14]
def pg_tb (i : Nat) : Option Cond := (pg_tbl.getD (i / 240) [])[i % 240]?
theorem pg_tbm : ∀ L ∈ pg_tbl, ∀ w ∈ L, w ∈ tables_1 := by
  simp only [pg_tbl, List.forall_mem_cons]
  unfold tables_1
  exact ⟨fun w h => List.mem_append_left _ h, fun w h => List.mem_append_right _ (List.mem_append_left _ h), fun w h => List.mem_append_right _ (List.mem_append_right _ (List.mem_append_left _ h)), fun w h => List.mem_append_right _ (List.mem_append_right _ (List.mem_append_right _ (List.mem_append_left _ h))), fun w h => List.mem_append_right _ (List.mem_append_right _ (List.mem_append_right _ (List.mem_append_right _ (List.mem_append_left _ h)))), fun w h => List.mem_append_right _ (List.mem_append_right _ (List.mem_append_right _ (List.mem_append_right _ (List.mem_append_right _ (List.mem_append_left _ h))))), fun w h => List.mem_append_right _ (List.mem_append_right _ (List.mem_append_right _ (List.mem_append_right _ (List.mem_append_right _ (List.mem_append_right _ (List.mem_append_left _ h)))))), fun w h => List.mem_append_right _ (List.mem_append_right _ (List.mem_append_right _ (List.mem_append_right _ (List.mem_append_right _ (List.mem_append_right _ (List.mem_append_right _ (List.mem_append_left _ h))))))), fun w h => List.mem_append_right _ (List.mem_append_right _ (List.mem_append_right _ (List.mem_append_right _ (List.mem_append_right _ (List.mem_append_right _ (List.mem_append_right _ (List.mem_append_right _ (List.mem_append_left _ h)))))))), fun w h => List.mem_append_right _ (List.mem_append_right _ (List.mem_append_right _ (List.mem_append_right _ (List.mem_append_right _ (List.mem_append_right _ (List.mem_append_right _ (List.mem_append_right _ (List.mem_append_right _ (List.mem_append_left _ h))))))))), fun w h => List.mem_append_right _ (List.mem_append_right _ (List.mem_append_right _ (List.mem_append_right _ (List.mem_append_right _ (List.mem_append_right _ (List.mem_append_right _ (List.mem_append_right _ (List.mem_append_right _ (List.mem_append_right _ (List.mem_append_left _ h)))))))))), fun w h => List.mem_append_right _ (List.mem_append_right _ (List.mem_append_right _ (List.mem_append_right _ (List.mem_append_right _ (List.mem_append_right _ (List.mem_append_right _ (List.mem_append_right _ (List.mem_append_right _ (List.mem_append_right _ (List.mem_append_right _ (List.mem_append_left _ h))))))))))), fun w h => List.mem_append_right _ (List.mem_append_right _ (List.mem_append_right _ (List.mem_append_right _ (List.mem_append_right _ (List.mem_append_right _ (List.mem_append_right _ (List.mem_append_right _ (List.mem_append_right _ (List.mem_append_right _ (List.mem_append_right _ (List.mem_append_right _ (List.mem_append_left _ h)))))))))))), fun w h => List.mem_append_right _ (List.mem_append_right _ (List.mem_append_right _ (List.mem_append_right _ (List.mem_append_right _ (List.mem_append_right _ (List.mem_append_right _ (List.mem_append_right _ (List.mem_append_right _ (List.mem_append_right _ (List.mem_append_right _ (List.mem_append_right _ (List.mem_append_right _ h)))))))))))), fun _ h => absurd h List.not_mem_nil⟩
theorem pg_tb_in {i : Nat} {w : Cond} (h : pg_tb i = some w) : w ∈ tables_1 := by
  unfold pg_tb at h
  have h1 := List.mem_of_getElem? h
  rw [List.getD_eq_getElem?_getD] at h1
  cases h3 : pg_tbl[i / 240]? with
  | some L => rw [h3] at h1; exact pg_tbm L (List.mem_of_getElem? h3) w h1
  | none => rw [h3] at h1; exact absurd h1 List.not_mem_nil
theorem pg_at {i : Nat} {w : Cond} (h : pg_tb i = some w) (hg : goodWord w = true) : w ∈ pg_Ts := List.mem_filter.mpr ⟨pg_tb_in h, hg⟩
def pg_MC : Nat := 601024
def pg_MS : Nat := 7293034
def pg_on : List String := ["LinkHouse", "LinkHouse$Filler", "LinkHouse$Layout", "LinkHouse$Link", "LinkHouse$Memory", "LinkHouse$Name", "LinkHouse$Names", "LinkHouse$ObjectFile", "LinkHouse$Part", "LinkHouse$Pool", "LinkHouse$Row", "LinkHouse$Scribe", "LinkHouseModel", "java/lang/IllegalArgumentException", "java/lang/IllegalStateException", "java/util/NoSuchElementException", "LinkHouseLaw", "java/util/Arrays", "java/lang/String", "java/lang/StringLatin1", "jdk/internal/util/Preconditions"]
def pg_cn (ci : Nat) : String := pg_on.getD ci ""
def pg_ty : List FieldType := [.byte, .int, .long, .boolean, .object "LinkHouse$ObjectFile", .object "LinkHouse$Name", .object "LinkHouse$Part"]
def pg_FL : List (List (String × String × String × Bool)) := [
  [("LinkHouse", "tape", "LLinkHouse$Row;", true), ("LinkHouse", "out", "LLinkHouse$Row;", false), ("LinkHouse", "draft", "LLinkHouse$Row;", false), ("LinkHouse", "store", "LLinkHouse$Row;", true), ("LinkHouse", "members", "[LLinkHouse$ObjectFile;", true), ("LinkHouse", "ends", "[I", true), ("LinkHouse", "files", "I", false), ("LinkHouse", "marks", "[I", true), ("LinkHouse", "given", "LLinkHouse$Names;", true), ("LinkHouse", "wished", "LLinkHouse$Names;", true), ("LinkHouse", "probe", "LLinkHouse$Name;", true), ("LinkHouse", "link", "LLinkHouse$Link;", true), ("LinkHouse", "pool", "LLinkHouse$Pool;", true), ("LinkHouse", "layout", "LLinkHouse$Layout;", true), ("LinkHouse", "filler", "LLinkHouse$Filler;", true), ("LinkHouse", "scribe", "LLinkHouse$Scribe;", true), ("LinkHouse", "memory", "LLinkHouse$Memory;", true), ("LinkHouse", "bootError", "I", false)],
  [("LinkHouse$Filler", "link", "LLinkHouse$Link;", true), ("LinkHouse$Filler", "layout", "LLinkHouse$Layout;", true), ("LinkHouse$Filler", "pool", "LLinkHouse$Pool;", true), ("LinkHouse$Filler", "store", "LLinkHouse$Row;", true), ("LinkHouse$Filler", "file", "LLinkHouse$Row;", true)],
  [("LinkHouse$Layout", "link", "LLinkHouse$Link;", true), ("LinkHouse$Layout", "pool", "LLinkHouse$Pool;", true), ("LinkHouse$Layout", "order", "[LLinkHouse$Part;", true), ("LinkHouse$Layout", "noPart", "LLinkHouse$Part;", true), ("LinkHouse$Layout", "there", "[Z", true), ("LinkHouse$Layout", "filePlace", "[J", true), ("LinkHouse$Layout", "base", "[J", true), ("LinkHouse$Layout", "fileBytes", "[J", true), ("LinkHouse$Layout", "memoryBytes", "[J", true), ("LinkHouse$Layout", "slots", "[I", true), ("LinkHouse$Layout", "localSlots", "[I", true), ("LinkHouse$Layout", "count", "I", false), ("LinkHouse$Layout", "slotCount", "I", false), ("LinkHouse$Layout", "slotPlace", "J", false), ("LinkHouse$Layout", "textEnd", "J", false), ("LinkHouse$Layout", "bssStart", "J", false), ("LinkHouse$Layout", "threadAlign", "J", false), ("LinkHouse$Layout", "tp", "J", false), ("LinkHouse$Layout", "fileSize", "J", false)],
  [("LinkHouse$Link", "members", "[LLinkHouse$ObjectFile;", true), ("LinkHouse$Link", "given", "LLinkHouse$Names;", true), ("LinkHouse$Link", "wished", "LLinkHouse$Names;", true), ("LinkHouse$Link", "names", "LLinkHouse$Names;", true), ("LinkHouse$Link", "parts", "[LLinkHouse$Part;", true), ("LinkHouse$Link", "noPart", "LLinkHouse$Part;", true), ("LinkHouse$Link", "objects", "[LLinkHouse$ObjectFile;", true), ("LinkHouse$Link", "noObject", "LLinkHouse$ObjectFile;", true), ("LinkHouse$Link", "symbolNames", "[LLinkHouse$Name;", true), ("LinkHouse$Link", "order", "[LLinkHouse$Name;", true), ("LinkHouse$Link", "queue", "[LLinkHouse$Part;", true), ("LinkHouse$Link", "probe", "LLinkHouse$Name;", true), ("LinkHouse$Link", "start", "LLinkHouse$Name;", true), ("LinkHouse$Link", "blamed", "LLinkHouse$Name;", false), ("LinkHouse$Link", "taken", "I", false), ("LinkHouse$Link", "ordered", "I", false), ("LinkHouse$Link", "queued", "I", false), ("LinkHouse$Link", "dropped", "I", false), ("LinkHouse$Link", "answer", "I", false), ("LinkHouse$Link", "overrun", "J", false)],
  [("LinkHouse$Memory", "bytes", "LLinkHouse$Row;", true), ("LinkHouse$Memory", "starts", "[J", true), ("LinkHouse$Memory", "sizes", "[J", true), ("LinkHouse$Memory", "fileSizes", "[J", true), ("LinkHouse$Memory", "places", "[I", true), ("LinkHouse$Memory", "flagBits", "[J", true), ("LinkHouse$Memory", "rows", "I", false), ("LinkHouse$Memory", "entry", "J", false), ("LinkHouse$Memory", "symbolPlace", "I", false), ("LinkHouse$Memory", "symbols", "I", false), ("LinkHouse$Memory", "namePlace", "I", false), ("LinkHouse$Memory", "nameSize", "I", false), ("LinkHouse$Memory", "named", "I", false)],
  [("LinkHouse$Name", "low", "J", false), ("LinkHouse$Name", "mid", "J", false), ("LinkHouse$Name", "high", "J", false), ("LinkHouse$Name", "length", "I", false), ("LinkHouse$Name", "strength", "I", false), ("LinkHouse$Name", "home", "I", false), ("LinkHouse$Name", "part", "LLinkHouse$Part;", false), ("LinkHouse$Name", "value", "J", false), ("LinkHouse$Name", "size", "J", false), ("LinkHouse$Name", "info", "I", false), ("LinkHouse$Name", "missed", "Z", false), ("LinkHouse$Name", "wished", "Z", false), ("LinkHouse$Name", "signature", "Z", false), ("LinkHouse$Name", "stays", "Z", false), ("LinkHouse$Name", "address", "J", false), ("LinkHouse$Name", "slot", "I", false), ("LinkHouse$Name", "threadSlot", "I", false), ("LinkHouse$Name", "number", "I", false)],
  [("LinkHouse$Names", "names", "[LLinkHouse$Name;", true), ("LinkHouse$Names", "none", "LLinkHouse$Name;", true), ("LinkHouse$Names", "count", "I", false)],
  [("LinkHouse$ObjectFile", "store", "LLinkHouse$Row;", true), ("LinkHouse$ObjectFile", "file", "I", true), ("LinkHouse$ObjectFile", "member", "I", true), ("LinkHouse$ObjectFile", "groups", "[B", true), ("LinkHouse$ObjectFile", "kind", "I", false), ("LinkHouse$ObjectFile", "base", "I", false), ("LinkHouse$ObjectFile", "size", "I", false), ("LinkHouse$ObjectFile", "rows", "I", false), ("LinkHouse$ObjectFile", "sections", "I", false), ("LinkHouse$ObjectFile", "symbolsAt", "I", false), ("LinkHouse$ObjectFile", "symbolPlace", "I", false), ("LinkHouse$ObjectFile", "symbols", "I", false), ("LinkHouse$ObjectFile", "namePlace", "I", false), ("LinkHouse$ObjectFile", "nameSize", "I", false), ("LinkHouse$ObjectFile", "stringsBits", "I", false), ("LinkHouse$ObjectFile", "taken", "Z", false), ("LinkHouse$ObjectFile", "cause", "I", false)],
  [("LinkHouse$Part", "object", "I", false), ("LinkHouse$Part", "file", "I", false), ("LinkHouse$Part", "member", "I", false), ("LinkHouse$Part", "number", "I", false), ("LinkHouse$Part", "group", "I", false), ("LinkHouse$Part", "size", "I", false), ("LinkHouse$Part", "align", "I", false), ("LinkHouse$Part", "start", "I", false), ("LinkHouse$Part", "state", "I", false), ("LinkHouse$Part", "stays", "Z", false), ("LinkHouse$Part", "strings", "Z", false), ("LinkHouse$Part", "address", "J", false), ("LinkHouse$Part", "fresh", "I", false)],
  [("LinkHouse$Pool", "store", "LLinkHouse$Row;", true), ("LinkHouse$Pool", "starts", "[I", true), ("LinkHouse$Pool", "lengths", "[I", true), ("LinkHouse$Pool", "count", "I", false), ("LinkHouse$Pool", "size", "I", false), ("LinkHouse$Pool", "address", "J", false)],
  [("LinkHouse$Row", "bytes", "[B", true), ("LinkHouse$Row", "size", "I", false), ("LinkHouse$Row", "over", "Z", false)],
  [("LinkHouse$Scribe", "link", "LLinkHouse$Link;", true), ("LinkHouse$Scribe", "layout", "LLinkHouse$Layout;", true), ("LinkHouse$Scribe", "store", "LLinkHouse$Row;", true), ("LinkHouse$Scribe", "rows", "LLinkHouse$Row;", true), ("LinkHouse$Scribe", "locals", "[I", true), ("LinkHouse$Scribe", "listed", "[LLinkHouse$Name;", true), ("LinkHouse$Scribe", "listedCount", "I", false), ("LinkHouse$Scribe", "localCount", "I", false), ("LinkHouse$Scribe", "symbolsSection", "I", false)],
  [("LinkHouseModel", "thrown", "I", false), ("LinkHouseModel", "tape", "[B", true), ("LinkHouseModel", "tapeSize", "I", false), ("LinkHouseModel", "out", "[B", true), ("LinkHouseModel", "outSize", "I", false), ("LinkHouseModel", "files", "I", false), ("LinkHouseModel", "bytes", "[B", true), ("LinkHouseModel", "fileSize", "[I", true), ("LinkHouseModel", "memberCount", "[I", true), ("LinkHouseModel", "memberAt", "[I", true), ("LinkHouseModel", "memberSize", "[I", true), ("LinkHouseModel", "isArchive", "[Z", true), ("LinkHouseModel", "isSkipped", "[Z", true), ("LinkHouseModel", "answer", "I", false), ("LinkHouseModel", "takenMany", "I", false), ("LinkHouseModel", "segments", "I", false), ("LinkHouseModel", "ranOver", "J", false), ("LinkHouseModel", "taken", "[I", true), ("LinkHouseModel", "isTaken", "[Z", true), ("LinkHouseModel", "wasThere", "[Z", true), ("LinkHouseModel", "names", "I", false), ("LinkHouseModel", "nameText", "[B", true), ("LinkHouseModel", "nameLength", "[I", true), ("LinkHouseModel", "strength", "[I", true), ("LinkHouseModel", "byObject", "[I", true), ("LinkHouseModel", "bySymbol", "[I", true), ("LinkHouseModel", "commonSize", "[I", true), ("LinkHouseModel", "commonValue", "[I", true), ("LinkHouseModel", "isWanted", "[Z", true), ("LinkHouseModel", "nameAddress", "[J", true), ("LinkHouseModel", "nameGiven", "[J", true), ("LinkHouseModel", "givenMany", "I", false), ("LinkHouseModel", "wishedMany", "I", false), ("LinkHouseModel", "givenText", "[B", true), ("LinkHouseModel", "wishedText", "[B", true), ("LinkHouseModel", "givenLength", "[I", true), ("LinkHouseModel", "wishedLength", "[I", true), ("LinkHouseModel", "givenValue", "[J", true), ("LinkHouseModel", "nameInfo", "[I", true), ("LinkHouseModel", "nameSegment", "[I", true), ("LinkHouseModel", "causeName", "[I", true), ("LinkHouseModel", "nameSize", "[J", true), ("LinkHouseModel", "linked", "[B", true), ("LinkHouseModel", "linkedSize", "I", false), ("LinkHouseModel", "memoryNames", "I", false), ("LinkHouseModel", "memoryAt", "[I", true), ("LinkHouseModel", "memoryLength", "[I", true), ("LinkHouseModel", "memoryValue", "[J", true), ("LinkHouseModel", "defined", "I", false), ("LinkHouseModel", "definedName", "[I", true), ("LinkHouseModel", "laid", "I", false), ("LinkHouseModel", "laidObject", "[I", true), ("LinkHouseModel", "laidFile", "[I", true), ("LinkHouseModel", "laidMember", "[I", true), ("LinkHouseModel", "laidNumber", "[I", true), ("LinkHouseModel", "laidGroup", "[I", true), ("LinkHouseModel", "laidSize", "[I", true), ("LinkHouseModel", "laidAddress", "[J", true), ("LinkHouseModel", "sectionAddress", "[J", true), ("LinkHouseModel", "isThere", "[Z", true), ("LinkHouseModel", "filePlace", "[J", true), ("LinkHouseModel", "segmentAddress", "[J", true), ("LinkHouseModel", "fileBytes", "[J", true), ("LinkHouseModel", "memoryBytes", "[J", true), ("LinkHouseModel", "fileEnd", "J", false), ("LinkHouseModel", "dropped", "[Z", true), ("LinkHouseModel", "reachedSection", "[Z", true), ("LinkHouseModel", "reachedName", "[Z", true), ("LinkHouseModel", "onlyReached", "Z", false), ("LinkHouseModel", "droppedMany", "I", false), ("LinkHouseModel", "signs", "I", false), ("LinkHouseModel", "signAt", "[I", true), ("LinkHouseModel", "signEnd", "[I", true), ("LinkHouseModel", "ownKind", "[I", true), ("LinkHouseModel", "slots", "I", false), ("LinkHouseModel", "slotName", "[I", true), ("LinkHouseModel", "slotObject", "[I", true), ("LinkHouseModel", "slotSymbol", "[I", true), ("LinkHouseModel", "slotThread", "[Z", true), ("LinkHouseModel", "slotPlace", "J", false), ("LinkHouseModel", "textEnd", "J", false), ("LinkHouseModel", "bssPlace", "J", false), ("LinkHouseModel", "hasTemplate", "Z", false), ("LinkHouseModel", "templateBegin", "J", false), ("LinkHouseModel", "templateFile", "J", false), ("LinkHouseModel", "templateMemory", "J", false), ("LinkHouseModel", "templateAlign", "J", false), ("LinkHouseModel", "threadPoint", "J", false), ("LinkHouseModel", "poolSize", "I", false), ("LinkHouseModel", "nodes", "I", false), ("LinkHouseModel", "poolPlace", "J", false), ("LinkHouseModel", "pool", "[B", true), ("LinkHouseModel", "child", "[I", true), ("LinkHouseModel", "sibling", "[I", true), ("LinkHouseModel", "poolEnd", "[I", true), ("LinkHouseModel", "letter", "[B", true), ("LinkHouseModel", "inGroup", "[Z", true), ("LinkHouseModel", "ownText", "[B", true), ("LinkHouseModel", "changed", "Z", false), ("LinkHouseModel", "tried", "[B", true), ("LinkHouseModel", "image", "[B", true), ("LinkHouseModel", "triedSize", "I", false), ("LinkHouseModel", "loaded", "I", false), ("LinkHouseModel", "bootError", "I", false), ("LinkHouseModel", "entry", "J", false), ("LinkHouseModel", "rowFlags", "[J", true), ("LinkHouseModel", "rowPlace", "[J", true), ("LinkHouseModel", "rowAddress", "[J", true), ("LinkHouseModel", "rowFile", "[J", true), ("LinkHouseModel", "rowMemory", "[J", true), ("LinkHouseModel", "newFlags", "[J", true), ("LinkHouseModel", "newPlace", "[J", true), ("LinkHouseModel", "newAddress", "[J", true), ("LinkHouseModel", "newFile", "[J", true), ("LinkHouseModel", "newMemory", "[J", true), ("LinkHouseModel", "newRows", "I", false), ("LinkHouseModel", "startText", "[B", true), ("LinkHouseModel", "newSection", "[I", true), ("LinkHouseModel", "newSymbol", "[I", true), ("LinkHouseModel", "newName", "[I", true), ("LinkHouseModel", "partObject", "[I", true), ("LinkHouseModel", "partNumber", "[I", true), ("LinkHouseModel", "nameAtPlace", "[I", true), ("LinkHouseModel", "parts", "I", false), ("LinkHouseModel", "firstName", "I", false), ("LinkHouseModel", "allSymbols", "I", false), ("LinkHouseModel", "isFull", "Z", false), ("LinkHouseModel", "objects", "I", false), ("LinkHouseModel", "objectAt", "[I", true), ("LinkHouseModel", "objectSize", "[I", true)],
  [],
  [],
  []]
def pg_T (ci : Nat) : u_T := fun k => (pg_FL.getD ci []).getD k ("", "", "", false)
def pg_nfl : List Nat := [18, 5, 19, 20, 13, 18, 3, 17, 13, 6, 3, 9, 130, 0, 0, 0]
def pg_nf (ci : Nat) : Nat := pg_nfl.getD ci 0
def pg_cl : List vw_C := (List.range 16).map (fun ci => (pg_cn ci, pg_T ci, pg_nf ci))
def pg_ftl : List (List FieldType) := [
  [(.object "LinkHouse$Row"), (.object "LinkHouse$Row"), (.object "LinkHouse$Row"), (.object "LinkHouse$Row"), (.array (.object "LinkHouse$ObjectFile")), (.array .int), .int, (.array .int), (.object "LinkHouse$Names"), (.object "LinkHouse$Names"), (.object "LinkHouse$Name"), (.object "LinkHouse$Link"), (.object "LinkHouse$Pool"), (.object "LinkHouse$Layout"), (.object "LinkHouse$Filler"), (.object "LinkHouse$Scribe"), (.object "LinkHouse$Memory"), .int],
  [(.object "LinkHouse$Link"), (.object "LinkHouse$Layout"), (.object "LinkHouse$Pool"), (.object "LinkHouse$Row"), (.object "LinkHouse$Row")],
  [(.object "LinkHouse$Link"), (.object "LinkHouse$Pool"), (.array (.object "LinkHouse$Part")), (.object "LinkHouse$Part"), (.array .boolean), (.array .long), (.array .long), (.array .long), (.array .long), (.array .int), (.array .int), .int, .int, .long, .long, .long, .long, .long, .long],
  [(.array (.object "LinkHouse$ObjectFile")), (.object "LinkHouse$Names"), (.object "LinkHouse$Names"), (.object "LinkHouse$Names"), (.array (.object "LinkHouse$Part")), (.object "LinkHouse$Part"), (.array (.object "LinkHouse$ObjectFile")), (.object "LinkHouse$ObjectFile"), (.array (.object "LinkHouse$Name")), (.array (.object "LinkHouse$Name")), (.array (.object "LinkHouse$Part")), (.object "LinkHouse$Name"), (.object "LinkHouse$Name"), (.object "LinkHouse$Name"), .int, .int, .int, .int, .int, .long],
  [(.object "LinkHouse$Row"), (.array .long), (.array .long), (.array .long), (.array .int), (.array .long), .int, .long, .int, .int, .int, .int, .int],
  [.long, .long, .long, .int, .int, .int, (.object "LinkHouse$Part"), .long, .long, .int, .boolean, .boolean, .boolean, .boolean, .long, .int, .int, .int],
  [(.array (.object "LinkHouse$Name")), (.object "LinkHouse$Name"), .int],
  [(.object "LinkHouse$Row"), .int, .int, (.array .byte), .int, .int, .int, .int, .int, .int, .int, .int, .int, .int, .int, .boolean, .int],
  [.int, .int, .int, .int, .int, .int, .int, .int, .int, .boolean, .boolean, .long, .int],
  [(.object "LinkHouse$Row"), (.array .int), (.array .int), .int, .int, .long],
  [(.array .byte), .int, .boolean],
  [(.object "LinkHouse$Link"), (.object "LinkHouse$Layout"), (.object "LinkHouse$Row"), (.object "LinkHouse$Row"), (.array .int), (.array (.object "LinkHouse$Name")), .int, .int, .int],
  [.int, (.array .byte), .int, (.array .byte), .int, .int, (.array .byte), (.array .int), (.array .int), (.array .int), (.array .int), (.array .boolean), (.array .boolean), .int, .int, .int, .long, (.array .int), (.array .boolean), (.array .boolean), .int, (.array .byte), (.array .int), (.array .int), (.array .int), (.array .int), (.array .int), (.array .int), (.array .boolean), (.array .long), (.array .long), .int, .int, (.array .byte), (.array .byte), (.array .int), (.array .int), (.array .long), (.array .int), (.array .int), (.array .int), (.array .long), (.array .byte), .int, .int, (.array .int), (.array .int), (.array .long), .int, (.array .int), .int, (.array .int), (.array .int), (.array .int), (.array .int), (.array .int), (.array .int), (.array .long), (.array .long), (.array .boolean), (.array .long), (.array .long), (.array .long), (.array .long), .long, (.array .boolean), (.array .boolean), (.array .boolean), .boolean, .int, .int, (.array .int), (.array .int), (.array .int), .int, (.array .int), (.array .int), (.array .int), (.array .boolean), .long, .long, .long, .boolean, .long, .long, .long, .long, .long, .int, .int, .long, (.array .byte), (.array .int), (.array .int), (.array .int), (.array .byte), (.array .boolean), (.array .byte), .boolean, (.array .byte), (.array .byte), .int, .int, .int, .long, (.array .long), (.array .long), (.array .long), (.array .long), (.array .long), (.array .long), (.array .long), (.array .long), (.array .long), (.array .long), .int, (.array .byte), (.array .int), (.array .int), (.array .int), (.array .int), (.array .int), (.array .int), .int, .int, .int, .boolean, .int, (.array .int), (.array .int)],
  [],
  [],
  []]
def pg_ftp (ci k : Nat) : FieldType := (pg_ftl.getD ci []).getD k .int
def pg_inl : List Nat := [18, 5, 19, 20, 13, 18, 3, 17, 13, 6, 3, 9, 130, 6, 6, 6]
def pg_in (ci : Nat) : Nat := pg_inl.getD ci 0
def pg_nc : Nat := 7
def pg_sf : List (String × String × String × Nat) := [("LinkHouse", "ARCHIVE", "[B", 1), ("LinkHouse", "SEGMENT_FLAGS", "[I", 2), ("LinkHouse", "ELF", "[B", 3), ("LinkHouse", "LAYOUT_ORDER", "[I", 4), ("LinkHouse", "SEGMENT_OF", "[I", 5), ("LinkHouse", "ROW_FLAGS", "[I", 6)]
def pg_ki : List Int32 := [65536, 65522, 65521, 32769, 1000000000, 81920, 65540]
def pg_kl : List Int64 := [18, 2, 4, 9, 11, 22, 23, 41, 42, -1, -9223372036854775808, 2656, 10, 48, 4096, 16, 62, 64, 56, 139, 141, 21, 59495, 233, 144, 8, 4194304, 4095, 65536, 17, 24, -4, 140737488355328, 3, 16384, 1024, 1536, 47, 111, 32, 46, 738142165265366049, 282584257676671, -2147483648, 2147483647, 5, 6, 7, 65521, 15, 4294967295]
def pg_nsx : List Nat := [162, 272, 284, 364, 545, 1386, 1516, 1611, 1726, 1779, 1896, 1910, 1950, 1020, 1370, 1441, 1468, 1666, 1691, 1767, 1885, 2024]
def pg_Ns : List Cond := pg_nsx.filterMap pg_tb
def pg_isN : Cond → Bool
  | .fieldLinkNest .. => true
  | .methodLinkNest .. => true
  | _ => false
theorem pg_nsb : pg_Ns.all pg_isN = true := by decide +kernel
theorem pg_nsf (w : Cond) (h : w ∈ pg_Ns) : (∃ a i b n d q, w = .fieldLinkNest a i b n d q) ∨ ∃ a i x q, w = .methodLinkNest a i x q := by
  have h1 := List.all_eq_true.mp pg_nsb w h
  cases w <;> first | (simp [pg_isN] at h1; done) | exact Or.inl ⟨_, _, _, _, _, _, rfl⟩ | exact Or.inr ⟨_, _, _, _, rfl⟩
def pg_Ao : List String := ["LinkHouse$ObjectFile", "LinkHouse$Name", "LinkHouse$Part"]
def pg_lix : List (List Nat) := [
  [759, 761, 763, 765, 767, 769, 771, 773, 775, 777, 779, 781, 783, 785, 787, 789, 791, 793],
  [640, 642, 644, 646, 648],
  [584, 586, 588, 590, 592, 594, 596, 598, 600, 602, 604, 606, 608, 610, 612, 614, 616, 618, 620],
  [464, 466, 468, 470, 472, 474, 476, 478, 480, 482, 484, 486, 488, 490, 492, 494, 496, 498, 500, 502],
  [714, 716, 718, 720, 722, 724, 726, 728, 730, 732, 734, 736, 738],
  [218, 220, 222, 224, 226, 228, 230, 232, 234, 236, 238, 240, 242, 244, 246, 248, 250, 252],
  [264, 266, 268],
  [117, 119, 121, 123, 125, 127, 129, 131, 133, 135, 137, 139, 141, 143, 145, 147, 149],
  [334, 336, 338, 340, 342, 344, 346, 348, 350, 352, 354, 356, 358],
  [525, 527, 529, 531, 533, 535],
  [61, 63, 65],
  [669, 671, 673, 675, 677, 679, 681, 683, 685],
  [2304, 2306, 2308, 2310, 2312, 2314, 2316, 2318, 2320, 2322, 2324, 2326, 2328, 2330, 2332, 2334, 2336, 2338, 2340, 2342, 2344, 2346, 2348, 2350, 2352, 2354, 2356, 2358, 2360, 2362, 2364, 2366, 2368, 2370, 2372, 2374, 2376, 2378, 2380, 2382, 2384, 2386, 2388, 2390, 2392, 2394, 2396, 2398, 2400, 2402, 2404, 2406, 2408, 2410, 2412, 2414, 2416, 2418, 2420, 2422, 2424, 2426, 2428, 2430, 2432, 2434, 2436, 2438, 2440, 2442, 2444, 2446, 2448, 2450, 2452, 2454, 2456, 2458, 2460, 2462, 2464, 2466, 2468, 2470, 2472, 2474, 2476, 2478, 2480, 2482, 2484, 2486, 2488, 2490, 2492, 2494, 2496, 2498, 2500, 2502, 2504, 2506, 2508, 2510, 2512, 2514, 2516, 2518, 2520, 2522, 2524, 2526, 2528, 2530, 2532, 2534, 2536, 2538, 2540, 2542, 2544, 2546, 2548, 2550, 2552, 2554, 2556, 2558, 2560, 2562],
  [],
  [],
  []]
def pg_iix : List Nat := [32, 626, 539, 274, 689, 161, 153, 72, 283, 506, 40, 652, 2166, 1050, 1830, 2045]
def pg_jix : List Nat := [1, 15, 14, 7, 17, 6, 5, 4, 8, 13, 2, 16, 18, 22, 23, 30]
def pg_clck (ci : Nat) : Bool :=
  (List.range (pg_nf ci)).all (fun k => decide (parseFieldDescriptor (pg_T ci k).2.2.1 = some (pg_ftp ci k)) && (List.range (pg_nf ci)).all (fun j => decide (k = j) || decide ((pg_T ci k).2.1 ≠ (pg_T ci j).2.1)) && decide (pg_tb ((pg_lix.getD ci []).getD k 0) = some (u_lay (pg_cn ci) (pg_T ci) k)) && goodWord (u_lay (pg_cn ci) (pg_T ci) k)) &&
  (decide (pg_tb (pg_iix.getD ci 0) = some (Cond.instantiable (pg_cn ci) (pg_in ci))) && (goodWord (Cond.instantiable (pg_cn ci) (pg_in ci)) && (decide (pg_tb (pg_jix.getD ci 0) = some (Cond.initialized (pg_cn ci))) && goodWord (Cond.initialized (pg_cn ci)))))
theorem pg_clck_0 : pg_clck 0 = true := by decide +kernel
theorem pg_clck_1 : pg_clck 1 = true := by decide +kernel
theorem pg_clck_2 : pg_clck 2 = true := by decide +kernel
theorem pg_clck_3 : pg_clck 3 = true := by decide +kernel
theorem pg_clck_4 : pg_clck 4 = true := by decide +kernel
theorem pg_clck_5 : pg_clck 5 = true := by decide +kernel
theorem pg_clck_6 : pg_clck 6 = true := by decide +kernel
theorem pg_clck_7 : pg_clck 7 = true := by decide +kernel
theorem pg_clck_8 : pg_clck 8 = true := by decide +kernel
theorem pg_clck_9 : pg_clck 9 = true := by decide +kernel
theorem pg_clck_10 : pg_clck 10 = true := by decide +kernel
theorem pg_clck_11 : pg_clck 11 = true := by decide +kernel
theorem pg_clck_12 : pg_clck 12 = true := by decide +kernel
theorem pg_clck_13 : pg_clck 13 = true := by decide +kernel
theorem pg_clck_14 : pg_clck 14 = true := by decide +kernel
theorem pg_clck_15 : pg_clck 15 = true := by decide +kernel
theorem pg_clok : ∀ ci, ci < 16 → pg_clck ci = true := by
  have h : ∀ ci ∈ [0, 1, 2, 3, 4, 5, 6, 7, 8, 9, 10, 11, 12, 13, 14, 15], pg_clck ci = true := by
    simp only [List.forall_mem_cons]
    exact ⟨pg_clck_0, pg_clck_1, pg_clck_2, pg_clck_3, pg_clck_4, pg_clck_5, pg_clck_6, pg_clck_7, pg_clck_8, pg_clck_9, pg_clck_10, pg_clck_11, pg_clck_12, pg_clck_13, pg_clck_14, pg_clck_15, fun _ h => absurd h List.not_mem_nil⟩
  exact fun ci hc => h ci (by have := List.mem_range.mpr hc; exact this)
theorem pg_cla {ci : Nat} {C : String} {T : u_T} {N : Nat} (h : pg_cl[ci]? = some (C, T, N)) : ci < 16 ∧ C = pg_cn ci ∧ T = pg_T ci ∧ N = pg_nf ci := by
  have hlt : ci < 16 := by
    have := (List.getElem?_eq_some_iff.mp h).1
    simpa [pg_cl] using this
  simp only [pg_cl, List.getElem?_map, List.getElem?_range hlt, Option.map_some, Option.some.injEq, Prod.mk.injEq] at h
  exact ⟨hlt, h.1.symm, h.2.1.symm, h.2.2.symm⟩
theorem pg_clb {ci : Nat} (h : ci < 16) : pg_cl[ci]? = some (pg_cn ci, pg_T ci, pg_nf ci) := by
  simp only [pg_cl, List.getElem?_map, List.getElem?_range h, Option.map_some]
theorem pg_cls {ci : Nat} {C : String} {T : u_T} {N : Nat} (h : pg_cl[ci]? = some (C, T, N)) : (∀ k, k < N → parseFieldDescriptor (T k).2.2.1 = some (pg_ftp ci k)) ∧ ∀ a, a < N → ∀ b, b < N → a ≠ b → (T a).2.1 ≠ (T b).2.1 := by
  obtain ⟨hlt, rfl, rfl, rfl⟩ := pg_cla h
  have h1 := pg_clok ci hlt
  simp only [pg_clck, Bool.and_eq_true, List.all_eq_true, List.mem_range, decide_eq_true_eq, Bool.or_eq_true] at h1
  exact ⟨fun k hk => (h1.1 k hk).1.1.1, fun a ha b hb hne => ((h1.1 a ha).1.1.2 b hb).resolve_left hne⟩
theorem pg_cin {ci : Nat} {C : String} {T : u_T} {N : Nat} (h : pg_cl[ci]? = some (C, T, N)) : ∀ w ∈ u_ws C T N, w ∈ pg_Ts := by
  obtain ⟨hlt, rfl, rfl, rfl⟩ := pg_cla h
  have h1 := pg_clok ci hlt
  simp only [pg_clck, Bool.and_eq_true, List.all_eq_true, List.mem_range, decide_eq_true_eq, Bool.or_eq_true] at h1
  intro w hw
  obtain ⟨k, hk, rfl⟩ := List.mem_map.mp hw
  have h2 := h1.1 k (List.mem_range.mp hk)
  exact pg_at h2.1.2 h2.2
theorem pg_cii {ci : Nat} (hlt : ci < 16) : Cond.instantiable (pg_cn ci) (pg_in ci) ∈ pg_Ts ∧ Cond.initialized (pg_cn ci) ∈ pg_Ts := by
  have h1 := pg_clok ci hlt
  simp only [pg_clck, Bool.and_eq_true, decide_eq_true_eq] at h1
  exact ⟨pg_at h1.2.1 h1.2.2.1, pg_at h1.2.2.2.1 h1.2.2.2.2⟩
end
section
/-! methods: names, code, links -/
def pg_mn0 : List (MethodName × ByteArray × Nat × Option FieldType × Nat × Nat) := [
  (⟨"LinkHouse", "<init>", "()V"⟩, prog_1_method_1_code, 2, none, 0, 0),
  (⟨"LinkHouse", "link", "(Z)I"⟩, prog_1_method_5_code, 2, (some .int), 1, 0),
  (⟨"LinkHouse", "runLink", "(Z)I"⟩, prog_1_method_27_code, 3, (some .int), 1, 0),
  (⟨"LinkHouse", "up", "(JJ)J"⟩, prog_1_method_37_code, 4, (some .long), 2, 0),
  (⟨"LinkHouse", "siteWidth", "(J)I"⟩, prog_1_method_39_code, 2, (some .int), 1, 0),
  (⟨"LinkHouse", "merge", "()I"⟩, prog_1_method_6_code, 2, (some .int), 0, 0),
  (⟨"LinkHouse", "publishDraft", "()I"⟩, prog_1_method_28_code, 2, (some .int), 0, 0),
  (⟨"LinkHouse", "forget", "()V"⟩, prog_1_method_9_code, 1, none, 0, 0),
  (⟨"LinkHouse", "pack", "()I"⟩, prog_1_method_10_code, 1, (some .int), 0, 0),
  (⟨"LinkHouse", "near", "(J)J"⟩, prog_1_method_12_code, 4, (some .long), 1, 0),
  (⟨"LinkHouse", "above", "(JJ)Z"⟩, prog_1_method_36_code, 4, (some .boolean), 2, 0),
  (⟨"LinkHouse", "boot", "(Z)I"⟩, prog_1_method_21_code, 3, (some .int), 1, 0),
  (⟨"LinkHouse", "peek", "(J)I"⟩, prog_1_method_22_code, 3, (some .int), 1, 0),
  (⟨"LinkHouse", "flags", "(J)J"⟩, prog_1_method_23_code, 3, (some .long), 1, 0),
  (⟨"LinkHouse", "feed", "(IJ)I"⟩, prog_1_method_2_code, 4, (some .int), 2, 0),
  (⟨"LinkHouse", "add", "()I"⟩, prog_1_method_3_code, 2, (some .int), 0, 0)]
def pg_mn1 : List (MethodName × ByteArray × Nat × Option FieldType × Nat × Nat) := [
  (⟨"LinkHouse", "readFile", "(I)I"⟩, prog_1_method_33_code, 3, (some .int), 1, 0),
  (⟨"LinkHouse", "readArchive", "(II)I"⟩, prog_1_method_34_code, 7, (some .int), 2, 0),
  (⟨"LinkHouse", "memberSize", "(I)I"⟩, prog_1_method_35_code, 7, (some .int), 1, 0),
  (⟨"LinkHouse", "isPower", "(J)Z"⟩, prog_1_method_38_code, 2, (some .boolean), 1, 0),
  (⟨"LinkHouse", "clearFile", "(I)V"⟩, prog_1_method_32_code, 3, none, 1, 0),
  (⟨"LinkHouse", "drop", "()I"⟩, prog_1_method_4_code, 1, (some .int), 0, 0),
  (⟨"LinkHouse", "give", "(J)I"⟩, prog_1_method_7_code, 4, (some .int), 1, 0),
  (⟨"LinkHouse", "readTapeName", "()Z"⟩, prog_1_method_29_code, 4, (some .boolean), 0, 0),
  (⟨"LinkHouse", "wish", "()I"⟩, prog_1_method_8_code, 2, (some .int), 0, 0),
  (⟨"LinkHouse", "named", "()I"⟩, prog_1_method_11_code, 1, (some .int), 0, 0),
  (⟨"LinkHouse", "list", "(II)I"⟩, prog_1_method_13_code, 4, (some .int), 2, 0),
  (⟨"LinkHouse", "objectAt", "(II)LLinkHouse$ObjectFile;"⟩, prog_1_method_31_code, 4, (some (.object "LinkHouse$ObjectFile")), 2, 0),
  (⟨"LinkHouse", "memberAt", "(II)LLinkHouse$ObjectFile;"⟩, prog_1_method_30_code, 4, (some (.object "LinkHouse$ObjectFile")), 2, 0),
  (⟨"LinkHouse", "sum", "(III)J"⟩, prog_1_method_14_code, 8, (some .long), 3, 0),
  (⟨"LinkHouse", "map", "()I"⟩, prog_1_method_15_code, 1, (some .int), 0, 0),
  (⟨"LinkHouse", "address", "()J"⟩, prog_1_method_16_code, 2, (some .long), 0, 0)]
def pg_mn2 : List (MethodName × ByteArray × Nat × Option FieldType × Nat × Nat) := [
  (⟨"LinkHouse", "taken", "(II)Z"⟩, prog_1_method_17_code, 4, (some .boolean), 2, 0),
  (⟨"LinkHouse", "cause", "(II)I"⟩, prog_1_method_18_code, 4, (some .int), 2, 0),
  (⟨"LinkHouse", "section", "(II)I"⟩, prog_1_method_19_code, 4, (some .int), 2, 0),
  (⟨"LinkHouse", "place", "(I)J"⟩, prog_1_method_20_code, 2, (some .long), 1, 0),
  (⟨"LinkHouse", "out", "(I)J"⟩, prog_1_method_24_code, 2, (some .long), 1, 0),
  (⟨"LinkHouse", "look", "(I)J"⟩, prog_1_method_25_code, 2, (some .long), 1, 0),
  (⟨"LinkHouse", "lookAtLink", "(I)J"⟩, prog_1_method_26_code, 4, (some .long), 1, 0),
  (⟨"LinkHouse$Filler", "<init>", "(LLinkHouse$Link;LLinkHouse$Layout;LLinkHouse$Pool;LLinkHouse$Row;)V"⟩, prog_2_method_1_code, 5, none, 4, 1),
  (⟨"LinkHouse$Filler", "write", "()V"⟩, prog_2_method_2_code, 3, none, 0, 1),
  (⟨"LinkHouse$Filler", "writeHead", "()V"⟩, prog_2_method_3_code, 2, none, 0, 1),
  (⟨"LinkHouse$Filler", "writeRow", "(IIIJ)V"⟩, prog_2_method_4_code, 6, none, 4, 1),
  (⟨"LinkHouse$Filler", "spotOf", "(LLinkHouse$Part;)I"⟩, prog_2_method_5_code, 3, (some .int), 1, 1),
  (⟨"LinkHouse$Filler", "fillSites", "()Z"⟩, prog_2_method_6_code, 8, (some .boolean), 0, 1),
  (⟨"LinkHouse$Filler", "fillSite", "(IILLinkHouse$Part;)Z"⟩, prog_2_method_7_code, 15, (some .boolean), 3, 1),
  (⟨"LinkHouse$Filler", "fillShort", "(IILLinkHouse$Part;)Z"⟩, prog_2_method_10_code, 12, (some .boolean), 3, 1),
  (⟨"LinkHouse$Filler", "slotAddress", "(IIZ)J"⟩, prog_2_method_8_code, 4, (some .long), 3, 1)]
def pg_mn3 : List (MethodName × ByteArray × Nat × Option FieldType × Nat × Nat) := [
  (⟨"LinkHouse$Filler", "sumFor", "(IIIJ)J"⟩, prog_2_method_9_code, 9, (some .long), 4, 1),
  (⟨"LinkHouse$Layout", "<init>", "(LLinkHouse$Link;LLinkHouse$Pool;)V"⟩, prog_3_method_1_code, 3, none, 2, 2),
  (⟨"LinkHouse$Layout", "lay", "()V"⟩, prog_3_method_6_code, 3, none, 0, 2),
  (⟨"LinkHouse$Layout", "gather", "()V"⟩, prog_3_method_7_code, 4, none, 0, 2),
  (⟨"LinkHouse$Layout", "findSlots", "()V"⟩, prog_3_method_8_code, 8, none, 0, 2),
  (⟨"LinkHouse$Layout", "findSlot", "(IILLinkHouse$Part;)V"⟩, prog_3_method_9_code, 11, none, 3, 2),
  (⟨"LinkHouse$Layout", "slotOf", "(IIZ)I"⟩, prog_3_method_11_code, 5, (some .int), 3, 2),
  (⟨"LinkHouse$Layout", "slotKey", "(IIZ)I"⟩, prog_3_method_10_code, 5, (some .int), 3, 2),
  (⟨"LinkHouse$Layout", "findSegments", "()V"⟩, prog_3_method_13_code, 3, none, 0, 2),
  (⟨"LinkHouse$Layout", "partAt", "(I)LLinkHouse$Part;"⟩, prog_3_method_2_code, 3, (some (.object "LinkHouse$Part")), 1, 2),
  (⟨"LinkHouse$Layout", "segmentOf", "(LLinkHouse$Part;)I"⟩, prog_3_method_3_code, 2, (some .int), 1, 2),
  (⟨"LinkHouse$Layout", "isLaidCommon", "(LLinkHouse$Name;)Z"⟩, prog_3_method_14_code, 1, (some .boolean), 1, 2),
  (⟨"LinkHouse$Layout", "layText", "()V"⟩, prog_3_method_15_code, 8, none, 0, 2),
  (⟨"LinkHouse$Layout", "countSegments", "()I"⟩, prog_3_method_4_code, 3, (some .int), 0, 2),
  (⟨"LinkHouse$Layout", "layData", "()V"⟩, prog_3_method_16_code, 6, none, 0, 2),
  (⟨"LinkHouse$Layout", "layGroup", "(IJ)J"⟩, prog_3_method_19_code, 8, (some .long), 2, 2)]
def pg_mn4 : List (MethodName × ByteArray × Nat × Option FieldType × Nat × Nat) := [
  (⟨"LinkHouse$Layout", "layTemplate", "(JJ)V"⟩, prog_3_method_17_code, 9, none, 2, 2),
  (⟨"LinkHouse$Layout", "firstOf", "(I)LLinkHouse$Part;"⟩, prog_3_method_18_code, 3, (some (.object "LinkHouse$Part")), 1, 2),
  (⟨"LinkHouse$Layout", "addressOf", "(LLinkHouse$Name;)J"⟩, prog_3_method_20_code, 2, (some .long), 1, 2),
  (⟨"LinkHouse$Layout", "ownAddress", "(I)J"⟩, prog_3_method_21_code, 2, (some .long), 1, 2),
  (⟨"LinkHouse$Layout", "isTooLarge", "()Z"⟩, prog_3_method_5_code, 2, (some .boolean), 0, 2),
  (⟨"LinkHouse$Layout", "slotValue", "(I)J"⟩, prog_3_method_12_code, 6, (some .long), 1, 2),
  (⟨"LinkHouse$Layout", "symbolAddress", "(II)J"⟩, prog_3_method_22_code, 8, (some .long), 2, 2),
  (⟨"LinkHouse$Link", "<init>", "([LLinkHouse$ObjectFile;LLinkHouse$Names;LLinkHouse$Names;LLinkHouse$Row;)V"⟩, prog_4_method_1_code, 6, none, 4, 3),
  (⟨"LinkHouse$Link", "resolve", "(Z)I"⟩, prog_4_method_9_code, 5, (some .int), 1, 3),
  (⟨"LinkHouse$Link", "begin", "()V"⟩, prog_4_method_10_code, 3, none, 0, 3),
  (⟨"LinkHouse$Link", "define", "(LLinkHouse$Name;IILLinkHouse$Part;JJI)V"⟩, prog_4_method_21_code, 10, none, 7, 3),
  (⟨"LinkHouse$Link", "takeObject", "(LLinkHouse$ObjectFile;)Z"⟩, prog_4_method_14_code, 3, (some .boolean), 1, 3),
  (⟨"LinkHouse$Link", "openParts", "(ILLinkHouse$ObjectFile;)V"⟩, prog_4_method_15_code, 6, none, 2, 3),
  (⟨"LinkHouse$Link", "part", "(II)LLinkHouse$Part;"⟩, prog_4_method_3_code, 4, (some (.object "LinkHouse$Part")), 2, 3),
  (⟨"LinkHouse$Link", "enterNames", "(ILLinkHouse$ObjectFile;)V"⟩, prog_4_method_16_code, 5, none, 2, 3),
  (⟨"LinkHouse$Link", "dropGroups", "(ILLinkHouse$ObjectFile;)V"⟩, prog_4_method_17_code, 6, none, 2, 3)]
def pg_mn5 : List (MethodName × ByteArray × Nat × Option FieldType × Nat × Nat) := [
  (⟨"LinkHouse$Link", "nameOf", "(II)LLinkHouse$Name;"⟩, prog_4_method_4_code, 5, (some (.object "LinkHouse$Name")), 2, 3),
  (⟨"LinkHouse$Link", "dropParts", "(ILLinkHouse$ObjectFile;II)V"⟩, prog_4_method_18_code, 7, none, 4, 3),
  (⟨"LinkHouse$Link", "defineNames", "(ILLinkHouse$ObjectFile;)Z"⟩, prog_4_method_19_code, 7, (some .boolean), 2, 3),
  (⟨"LinkHouse$Link", "settle", "(LLinkHouse$Name;ILLinkHouse$ObjectFile;I)Z"⟩, prog_4_method_20_code, 12, (some .boolean), 4, 3),
  (⟨"LinkHouse$Link", "takeMembers", "(I)Z"⟩, prog_4_method_12_code, 7, (some .boolean), 1, 3),
  (⟨"LinkHouse$Link", "firstWanted", "(LLinkHouse$ObjectFile;)I"⟩, prog_4_method_13_code, 4, (some .int), 1, 3),
  (⟨"LinkHouse$Link", "isWanted", "(LLinkHouse$Name;)Z"⟩, prog_4_method_11_code, 1, (some .boolean), 1, 3),
  (⟨"LinkHouse$Link", "defineOwn", "(Ljava/lang/String;I)V"⟩, prog_4_method_22_code, 4, none, 2, 3),
  (⟨"LinkHouse$Link", "isNameLeft", "()Z"⟩, prog_4_method_23_code, 4, (some .boolean), 0, 3),
  (⟨"LinkHouse$Link", "keepReached", "()V"⟩, prog_4_method_24_code, 3, none, 0, 3),
  (⟨"LinkHouse$Link", "definedAt", "(I)LLinkHouse$Name;"⟩, prog_4_method_5_code, 3, (some (.object "LinkHouse$Name")), 1, 3),
  (⟨"LinkHouse$Link", "reachName", "(LLinkHouse$Name;)V"⟩, prog_4_method_25_code, 2, none, 1, 3),
  (⟨"LinkHouse$Link", "reachPart", "(LLinkHouse$Part;)V"⟩, prog_4_method_26_code, 2, none, 1, 3),
  (⟨"LinkHouse$Link", "reachFrom", "(LLinkHouse$Part;)V"⟩, prog_4_method_27_code, 7, none, 1, 3),
  (⟨"LinkHouse$Link", "object", "(I)LLinkHouse$ObjectFile;"⟩, prog_4_method_2_code, 3, (some (.object "LinkHouse$ObjectFile")), 1, 3),
  (⟨"LinkHouse$Link", "reachSymbol", "(II)V"⟩, prog_4_method_28_code, 4, none, 2, 3)]
def pg_mn6 : List (MethodName × ByteArray × Nat × Option FieldType × Nat × Nat) := [
  (⟨"LinkHouse$Link", "partOf", "(II)LLinkHouse$Part;"⟩, prog_4_method_6_code, 8, (some (.object "LinkHouse$Part")), 2, 3),
  (⟨"LinkHouse$Link", "stayingTarget", "(II)LLinkHouse$Part;"⟩, prog_4_method_7_code, 5, (some (.object "LinkHouse$Part")), 2, 3),
  (⟨"LinkHouse$Link", "isShort", "(IILLinkHouse$Part;)Z"⟩, prog_4_method_29_code, 13, (some .boolean), 3, 3),
  (⟨"LinkHouse$Link", "countStaying", "()I"⟩, prog_4_method_8_code, 3, (some .int), 0, 3),
  (⟨"LinkHouse$Memory", "<init>", "()V"⟩, prog_5_method_1_code, 1, none, 0, 4),
  (⟨"LinkHouse$Memory", "rowAt", "(J)I"⟩, prog_5_method_10_code, 4, (some .int), 1, 4),
  (⟨"LinkHouse$Memory", "nearest", "(J)I"⟩, prog_5_method_9_code, 6, (some .int), 1, 4),
  (⟨"LinkHouse$Memory", "valueOf", "(I)J"⟩, prog_5_method_7_code, 2, (some .long), 1, 4),
  (⟨"LinkHouse$Memory", "isName", "(I)Z"⟩, prog_5_method_6_code, 6, (some .boolean), 1, 4),
  (⟨"LinkHouse$Memory", "nameStart", "(I)I"⟩, prog_5_method_8_code, 2, (some .int), 1, 4),
  (⟨"LinkHouse$Memory", "errorOf", "(LLinkHouse$Row;)I"⟩, prog_5_method_2_code, 16, (some .int), 1, 4),
  (⟨"LinkHouse$Memory", "rowError", "(LLinkHouse$Row;IJ)I"⟩, prog_5_method_3_code, 14, (some .int), 3, 4),
  (⟨"LinkHouse$Memory", "load", "(LLinkHouse$Row;)V"⟩, prog_5_method_4_code, 6, none, 1, 4),
  (⟨"LinkHouse$Memory", "findNames", "()V"⟩, prog_5_method_5_code, 11, none, 0, 4),
  (⟨"LinkHouse$Memory", "byteAt", "(J)I"⟩, prog_5_method_11_code, 6, (some .int), 1, 4),
  (⟨"LinkHouse$Memory", "flagsAt", "(J)J"⟩, prog_5_method_12_code, 4, (some .long), 1, 4)]
def pg_mn7 : List (MethodName × ByteArray × Nat × Option FieldType × Nat × Nat) := [
  (⟨"LinkHouse$Name", "<init>", "()V"⟩, prog_6_method_1_code, 1, none, 0, 5),
  (⟨"LinkHouse$Name", "setText", "(Ljava/lang/String;)V"⟩, prog_6_method_5_code, 3, none, 1, 5),
  (⟨"LinkHouse$Name", "wipe", "()V"⟩, prog_6_method_2_code, 1, none, 0, 5),
  (⟨"LinkHouse$Name", "append", "(I)V"⟩, prog_6_method_3_code, 4, none, 1, 5),
  (⟨"LinkHouse$Name", "renew", "(LLinkHouse$Name;)V"⟩, prog_6_method_6_code, 2, none, 1, 5),
  (⟨"LinkHouse$Name", "read", "(LLinkHouse$Row;I)V"⟩, prog_6_method_4_code, 4, none, 2, 5),
  (⟨"LinkHouse$Name", "isMissedOrWished", "()Z"⟩, prog_6_method_8_code, 1, (some .boolean), 0, 5),
  (⟨"LinkHouse$Name", "writeTo", "(LLinkHouse$Row;)V"⟩, prog_6_method_9_code, 5, none, 1, 5),
  (⟨"LinkHouse$Name", "isDefinedByInput", "()Z"⟩, prog_6_method_7_code, 1, (some .boolean), 0, 5),
  (⟨"LinkHouse$Names", "<init>", "(I)V"⟩, prog_7_method_1_code, 2, none, 1, 6),
  (⟨"LinkHouse$Names", "at", "(I)LLinkHouse$Name;"⟩, prog_7_method_2_code, 3, (some (.object "LinkHouse$Name")), 1, 6),
  (⟨"LinkHouse$Names", "enter", "(LLinkHouse$Name;)LLinkHouse$Name;"⟩, prog_7_method_4_code, 3, (some (.object "LinkHouse$Name")), 1, 6),
  (⟨"LinkHouse$Names", "find", "(LLinkHouse$Name;)LLinkHouse$Name;"⟩, prog_7_method_3_code, 4, (some (.object "LinkHouse$Name")), 1, 6),
  (⟨"LinkHouse$ObjectFile", "<init>", "(LLinkHouse$Row;II)V"⟩, prog_8_method_1_code, 4, none, 3, 7),
  (⟨"LinkHouse$ObjectFile", "groupOf", "(J)I"⟩, prog_8_method_12_code, 3, (some .int), 1, 7),
  (⟨"LinkHouse$ObjectFile", "lengthOf", "(I)J"⟩, prog_8_method_8_code, 2, (some .long), 1, 7)]
def pg_mn8 : List (MethodName × ByteArray × Nat × Option FieldType × Nat × Nat) := [
  (⟨"LinkHouse$ObjectFile", "num", "(II)J"⟩, prog_8_method_3_code, 7, (some .long), 2, 7),
  (⟨"LinkHouse$ObjectFile", "alignOf", "(I)J"⟩, prog_8_method_11_code, 2, (some .long), 1, 7),
  (⟨"LinkHouse$ObjectFile", "placeOf", "(I)J"⟩, prog_8_method_7_code, 2, (some .long), 1, 7),
  (⟨"LinkHouse$ObjectFile", "isStrings", "(I)Z"⟩, prog_8_method_34_code, 2, (some .boolean), 1, 7),
  (⟨"LinkHouse$ObjectFile", "bindOf", "(I)I"⟩, prog_8_method_15_code, 2, (some .int), 1, 7),
  (⟨"LinkHouse$ObjectFile", "nameStart", "(I)I"⟩, prog_8_method_20_code, 2, (some .int), 1, 7),
  (⟨"LinkHouse$ObjectFile", "typeOf", "(I)J"⟩, prog_8_method_5_code, 2, (some .long), 1, 7),
  (⟨"LinkHouse$ObjectFile", "infoOf", "(I)J"⟩, prog_8_method_10_code, 2, (some .long), 1, 7),
  (⟨"LinkHouse$ObjectFile", "whereOf", "(I)I"⟩, prog_8_method_17_code, 2, (some .int), 1, 7),
  (⟨"LinkHouse$ObjectFile", "isDefining", "(I)Z"⟩, prog_8_method_19_code, 2, (some .boolean), 1, 7),
  (⟨"LinkHouse$ObjectFile", "targetOf", "(I)I"⟩, prog_8_method_13_code, 4, (some .int), 1, 7),
  (⟨"LinkHouse$ObjectFile", "sitesOf", "(I)I"⟩, prog_8_method_14_code, 2, (some .int), 1, 7),
  (⟨"LinkHouse$ObjectFile", "valueOf", "(I)J"⟩, prog_8_method_18_code, 2, (some .long), 1, 7),
  (⟨"LinkHouse$ObjectFile", "kindOf", "(I)I"⟩, prog_8_method_16_code, 2, (some .int), 1, 7),
  (⟨"LinkHouse$ObjectFile", "flagsOf", "(I)J"⟩, prog_8_method_6_code, 2, (some .long), 1, 7),
  (⟨"LinkHouse$ObjectFile", "open", "(III)V"⟩, prog_8_method_2_code, 4, none, 3, 7)]
def pg_mn9 : List (MethodName × ByteArray × Nat × Option FieldType × Nat × Nat) := [
  (⟨"LinkHouse$ObjectFile", "readError", "([I)I"⟩, prog_8_method_21_code, 4, (some .int), 1, 7),
  (⟨"LinkHouse$ObjectFile", "isHeadGood", "()Z"⟩, prog_8_method_22_code, 2, (some .boolean), 0, 7),
  (⟨"LinkHouse$ObjectFile", "areRowsGood", "()Z"⟩, prog_8_method_23_code, 4, (some .boolean), 0, 7),
  (⟨"LinkHouse$ObjectFile", "holds", "(JJ)Z"⟩, prog_8_method_4_code, 5, (some .boolean), 2, 7),
  (⟨"LinkHouse$ObjectFile", "sectionsError", "()I"⟩, prog_8_method_24_code, 7, (some .int), 0, 7),
  (⟨"LinkHouse$ObjectFile", "findGroup", "(JJ)I"⟩, prog_8_method_25_code, 4, (some .int), 2, 7),
  (⟨"LinkHouse$ObjectFile", "findSymbols", "()Z"⟩, prog_8_method_26_code, 5, (some .boolean), 0, 7),
  (⟨"LinkHouse$ObjectFile", "linkOf", "(I)J"⟩, prog_8_method_9_code, 2, (some .long), 1, 7),
  (⟨"LinkHouse$ObjectFile", "isSymbolGood", "(I)Z"⟩, prog_8_method_27_code, 5, (some .boolean), 1, 7),
  (⟨"LinkHouse$ObjectFile", "isNameGood", "(I)Z"⟩, prog_8_method_28_code, 5, (some .boolean), 1, 7),
  (⟨"LinkHouse$ObjectFile", "areSitesGood", "([I)Z"⟩, prog_8_method_29_code, 7, (some .boolean), 1, 7),
  (⟨"LinkHouse$ObjectFile", "isSiteGood", "(II[I)Z"⟩, prog_8_method_30_code, 11, (some .boolean), 3, 7),
  (⟨"LinkHouse$ObjectFile", "areGroupsGood", "()Z"⟩, prog_8_method_31_code, 11, (some .boolean), 0, 7),
  (⟨"LinkHouse$ObjectFile", "findStrings", "()V"⟩, prog_8_method_32_code, 3, none, 0, 7),
  (⟨"LinkHouse$ObjectFile", "isStringRow", "(I)Z"⟩, prog_8_method_33_code, 4, (some .boolean), 1, 7),
  (⟨"LinkHouse$Part", "<init>", "()V"⟩, prog_9_method_1_code, 1, none, 0, 8)]
def pg_mn10 : List (MethodName × ByteArray × Nat × Option FieldType × Nat × Nat) := [
  (⟨"LinkHouse$Pool", "<init>", "(LLinkHouse$Row;)V"⟩, prog_10_method_1_code, 2, none, 1, 9),
  (⟨"LinkHouse$Pool", "clear", "()V"⟩, prog_10_method_2_code, 1, none, 0, 9),
  (⟨"LinkHouse$Pool", "collect", "(LLinkHouse$Part;)V"⟩, prog_10_method_3_code, 5, none, 1, 9),
  (⟨"LinkHouse$Pool", "admit", "(II)V"⟩, prog_10_method_4_code, 5, none, 2, 9),
  (⟨"LinkHouse$Pool", "isEnd", "(IIII)Z"⟩, prog_10_method_5_code, 8, (some .boolean), 4, 9),
  (⟨"LinkHouse$Pool", "addressIn", "(LLinkHouse$Part;J)J"⟩, prog_10_method_6_code, 11, (some .long), 2, 9),
  (⟨"LinkHouse$Row", "<init>", "(I)V"⟩, prog_11_method_1_code, 2, none, 1, 10),
  (⟨"LinkHouse$Row", "at", "(I)I"⟩, prog_11_method_3_code, 2, (some .int), 1, 10),
  (⟨"LinkHouse$Row", "clear", "()V"⟩, prog_11_method_2_code, 1, none, 0, 10),
  (⟨"LinkHouse$Row", "putAll", "([B)V"⟩, prog_11_method_10_code, 3, none, 1, 10),
  (⟨"LinkHouse$Row", "put", "(IJ)V"⟩, prog_11_method_8_code, 5, none, 2, 10),
  (⟨"LinkHouse$Row", "fillTo", "(JI)V"⟩, prog_11_method_14_code, 5, none, 2, 10),
  (⟨"LinkHouse$Row", "cover", "(I[BII)V"⟩, prog_11_method_16_code, 5, none, 4, 10),
  (⟨"LinkHouse$Row", "set", "(IIJ)V"⟩, prog_11_method_13_code, 7, none, 3, 10),
  (⟨"LinkHouse$Row", "copy", "([BII)V"⟩, prog_11_method_15_code, 4, none, 3, 10),
  (⟨"LinkHouse$Row", "putDecimal", "(I)V"⟩, prog_11_method_11_code, 3, none, 1, 10)]
def pg_mn11 : List (MethodName × ByteArray × Nat × Option FieldType × Nat × Nat) := [
  (⟨"LinkHouse$Row", "putHighestFirst", "(I)V"⟩, prog_11_method_9_code, 3, none, 1, 10),
  (⟨"LinkHouse$Row", "num", "(II)J"⟩, prog_11_method_4_code, 6, (some .long), 2, 10),
  (⟨"LinkHouse$Row", "nameLength", "(II)I"⟩, prog_11_method_6_code, 4, (some .int), 2, 10),
  (⟨"LinkHouse$Row", "begins", "([B)Z"⟩, prog_11_method_7_code, 3, (some .boolean), 1, 10),
  (⟨"LinkHouse$Row", "holds", "(JJ)Z"⟩, prog_11_method_5_code, 5, (some .boolean), 2, 10),
  (⟨"LinkHouse$Row", "putHex", "(J)V"⟩, prog_11_method_12_code, 5, none, 1, 10),
  (⟨"LinkHouse$Scribe", "<init>", "(LLinkHouse$Link;LLinkHouse$Layout;LLinkHouse$Row;)V"⟩, prog_12_method_1_code, 4, none, 3, 11),
  (⟨"LinkHouse$Scribe", "writeMerged", "(LLinkHouse$Row;)Z"⟩, prog_12_method_10_code, 4, (some .boolean), 1, 11),
  (⟨"LinkHouse$Scribe", "numberParts", "()I"⟩, prog_12_method_11_code, 5, (some .int), 0, 11),
  (⟨"LinkHouse$Scribe", "numberSymbols", "()I"⟩, prog_12_method_12_code, 6, (some .int), 0, 11),
  (⟨"LinkHouse$Scribe", "listName", "(LLinkHouse$Name;)V"⟩, prog_12_method_13_code, 2, none, 1, 11),
  (⟨"LinkHouse$Scribe", "mergeParts", "(LLinkHouse$Row;I)V"⟩, prog_12_method_14_code, 8, none, 2, 11),
  (⟨"LinkHouse$Scribe", "nextPlace", "(LLinkHouse$Row;)I"⟩, prog_12_method_17_code, 1, (some .int), 1, 11),
  (⟨"LinkHouse$Scribe", "putRow", "(JJJJII)V"⟩, prog_12_method_18_code, 11, none, 6, 11),
  (⟨"LinkHouse$Scribe", "endRow", "(JI)V"⟩, prog_12_method_19_code, 4, none, 2, 11),
  (⟨"LinkHouse$Scribe", "mergeSites", "(LLinkHouse$Row;I)V"⟩, prog_12_method_15_code, 9, none, 2, 11)]
def pg_mn12 : List (MethodName × ByteArray × Nat × Option FieldType × Nat × Nat) := [
  (⟨"LinkHouse$Scribe", "freshSymbol", "(II)I"⟩, prog_12_method_16_code, 5, (some .int), 2, 11),
  (⟨"LinkHouse$Scribe", "mergeSymbols", "(LLinkHouse$Row;)V"⟩, prog_12_method_20_code, 6, none, 1, 11),
  (⟨"LinkHouse$Scribe", "mergeLocal", "(LLinkHouse$Row;II)V"⟩, prog_12_method_21_code, 10, none, 3, 11),
  (⟨"LinkHouse$Scribe", "putSymbol", "(LLinkHouse$Row;IIIJJ)V"⟩, prog_12_method_23_code, 8, none, 6, 11),
  (⟨"LinkHouse$Scribe", "mergeName", "(LLinkHouse$Row;LLinkHouse$Name;I)V"⟩, prog_12_method_22_code, 5, none, 3, 11),
  (⟨"LinkHouse$Scribe", "mergeNames", "(LLinkHouse$Row;)V"⟩, prog_12_method_24_code, 4, none, 1, 11),
  (⟨"LinkHouse$Scribe", "writePacked", "(LLinkHouse$Row;[LLinkHouse$ObjectFile;)Z"⟩, prog_12_method_5_code, 9, (some .boolean), 2, 11),
  (⟨"LinkHouse$Scribe", "isObject", "(LLinkHouse$ObjectFile;)Z"⟩, prog_12_method_6_code, 1, (some .boolean), 1, 11),
  (⟨"LinkHouse$Scribe", "writeIndex", "(LLinkHouse$Row;[LLinkHouse$ObjectFile;II)V"⟩, prog_12_method_7_code, 10, none, 4, 11),
  (⟨"LinkHouse$Scribe", "writeAhead", "(LLinkHouse$Row;II)V"⟩, prog_12_method_9_code, 3, none, 3, 11),
  (⟨"LinkHouse$Scribe", "writeObjects", "(LLinkHouse$Row;[LLinkHouse$ObjectFile;)V"⟩, prog_12_method_8_code, 7, none, 2, 11),
  (⟨"LinkHouse$Scribe", "writeNamed", "(LLinkHouse$Row;LLinkHouse$Row;)Z"⟩, prog_12_method_25_code, 8, (some .boolean), 2, 11),
  (⟨"LinkHouse$Scribe", "rowOf", "(LLinkHouse$Name;)I"⟩, prog_12_method_26_code, 7, (some .int), 1, 11),
  (⟨"LinkHouse$Scribe", "writeSegmentRows", "()V"⟩, prog_12_method_27_code, 2, none, 0, 11),
  (⟨"LinkHouse$Scribe", "writeList", "(LLinkHouse$Row;LLinkHouse$ObjectFile;)V"⟩, prog_12_method_2_code, 4, none, 2, 11),
  (⟨"LinkHouse$Scribe", "letterOf", "(LLinkHouse$ObjectFile;I)I"⟩, prog_12_method_3_code, 6, (some .int), 2, 11)]
def pg_mn13 : List (MethodName × ByteArray × Nat × Option FieldType × Nat × Nat) := [
  (⟨"LinkHouse$Scribe", "writeMap", "(LLinkHouse$Row;)Z"⟩, prog_12_method_4_code, 4, (some .boolean), 1, 11),
  (⟨"LinkHouseModel", "<init>", "()V"⟩, prog_14_method_1_code, 1, none, 0, 12),
  (⟨"LinkHouseModel", "thrown", "()I"⟩, prog_14_method_2_code, 1, (some .int), 0, 12),
  (⟨"LinkHouseModel", "feed", "(IJ)I"⟩, prog_14_method_4_code, 6, (some .int), 2, 12),
  (⟨"LinkHouseModel", "throwing", "(ZZ)Z"⟩, prog_14_method_3_code, 3, (some .boolean), 2, 12),
  (⟨"LinkHouseModel", "add", "()I"⟩, prog_14_method_47_code, 3, (some .int), 0, 12),
  (⟨"LinkHouseModel", "fileError", "(II)I"⟩, prog_14_method_46_code, 6, (some .int), 2, 12),
  (⟨"LinkHouseModel", "num", "(II)J"⟩, prog_14_method_5_code, 6, (some .long), 2, 12),
  (⟨"LinkHouseModel", "objectError", "(II)I"⟩, prog_14_method_44_code, 6, (some .int), 2, 12),
  (⟨"LinkHouseModel", "isHeader", "(I)Z"⟩, prog_14_method_28_code, 3, (some .boolean), 1, 12),
  (⟨"LinkHouseModel", "sections", "(I)I"⟩, prog_14_method_6_code, 2, (some .int), 1, 12),
  (⟨"LinkHouseModel", "lies", "(JJJ)Z"⟩, prog_14_method_27_code, 6, (some .boolean), 3, 12),
  (⟨"LinkHouseModel", "type", "(II)J"⟩, prog_14_method_8_code, 3, (some .long), 2, 12),
  (⟨"LinkHouseModel", "row", "(II)I"⟩, prog_14_method_7_code, 3, (some .int), 2, 12),
  (⟨"LinkHouseModel", "sectionError", "(III)I"⟩, prog_14_method_29_code, 5, (some .int), 3, 12),
  (⟨"LinkHouseModel", "beginning", "(II)J"⟩, prog_14_method_10_code, 3, (some .long), 2, 12)]
def pg_mn14 : List (MethodName × ByteArray × Nat × Option FieldType × Nat × Nat) := [
  (⟨"LinkHouseModel", "size", "(II)J"⟩, prog_14_method_11_code, 3, (some .long), 2, 12),
  (⟨"LinkHouseModel", "isKept", "(II)Z"⟩, prog_14_method_15_code, 3, (some .boolean), 2, 12),
  (⟨"LinkHouseModel", "flagsOf", "(II)J"⟩, prog_14_method_9_code, 3, (some .long), 2, 12),
  (⟨"LinkHouseModel", "align", "(II)J"⟩, prog_14_method_14_code, 3, (some .long), 2, 12),
  (⟨"LinkHouseModel", "isPower", "(J)Z"⟩, prog_14_method_26_code, 2, (some .boolean), 1, 12),
  (⟨"LinkHouseModel", "symbolsError", "(I)I"⟩, prog_14_method_30_code, 7, (some .int), 1, 12),
  (⟨"LinkHouseModel", "symbols", "(I)I"⟩, prog_14_method_17_code, 3, (some .int), 1, 12),
  (⟨"LinkHouseModel", "linkOf", "(II)J"⟩, prog_14_method_12_code, 3, (some .long), 2, 12),
  (⟨"LinkHouseModel", "symbolMany", "(I)I"⟩, prog_14_method_18_code, 3, (some .int), 1, 12),
  (⟨"LinkHouseModel", "isSymbol", "(II)Z"⟩, prog_14_method_31_code, 6, (some .boolean), 2, 12),
  (⟨"LinkHouseModel", "where", "(II)I"⟩, prog_14_method_21_code, 3, (some .int), 2, 12),
  (⟨"LinkHouseModel", "symbol", "(II)I"⟩, prog_14_method_19_code, 3, (some .int), 2, 12),
  (⟨"LinkHouseModel", "bind", "(II)I"⟩, prog_14_method_20_code, 3, (some .int), 2, 12),
  (⟨"LinkHouseModel", "isName", "(II)Z"⟩, prog_14_method_32_code, 9, (some .boolean), 2, 12),
  (⟨"LinkHouseModel", "value", "(II)J"⟩, prog_14_method_22_code, 3, (some .long), 2, 12),
  (⟨"LinkHouseModel", "symbolSize", "(II)J"⟩, prog_14_method_23_code, 3, (some .long), 2, 12)]
def pg_mn15 : List (MethodName × ByteArray × Nat × Option FieldType × Nat × Nat) := [
  (⟨"LinkHouseModel", "sitesError", "(I)I"⟩, prog_14_method_39_code, 4, (some .int), 1, 12),
  (⟨"LinkHouseModel", "isSites", "(II)Z"⟩, prog_14_method_35_code, 3, (some .boolean), 2, 12),
  (⟨"LinkHouseModel", "info", "(II)J"⟩, prog_14_method_13_code, 3, (some .long), 2, 12),
  (⟨"LinkHouseModel", "siteMany", "(II)I"⟩, prog_14_method_36_code, 3, (some .int), 2, 12),
  (⟨"LinkHouseModel", "isSite", "(III)Z"⟩, prog_14_method_38_code, 12, (some .boolean), 3, 12),
  (⟨"LinkHouseModel", "site", "(III)I"⟩, prog_14_method_37_code, 4, (some .int), 3, 12),
  (⟨"LinkHouseModel", "width", "(J)I"⟩, prog_14_method_34_code, 2, (some .int), 1, 12),
  (⟨"LinkHouseModel", "isSlotted", "(J)Z"⟩, prog_14_method_33_code, 2, (some .boolean), 1, 12),
  (⟨"LinkHouseModel", "groupsError", "(I)I"⟩, prog_14_method_43_code, 3, (some .int), 1, 12),
  (⟨"LinkHouseModel", "isGroup", "(II)Z"⟩, prog_14_method_40_code, 3, (some .boolean), 2, 12),
  (⟨"LinkHouseModel", "isGroupRight", "(II)Z"⟩, prog_14_method_42_code, 7, (some .boolean), 2, 12),
  (⟨"LinkHouseModel", "groupNumber", "(III)J"⟩, prog_14_method_41_code, 4, (some .long), 3, 12),
  (⟨"LinkHouseModel", "isMembers", "(II)Z"⟩, prog_14_method_45_code, 9, (some .boolean), 2, 12),
  (⟨"LinkHouseModel", "drop", "()I"⟩, prog_14_method_48_code, 1, (some .int), 0, 12),
  (⟨"LinkHouseModel", "give", "(J)I"⟩, prog_14_method_57_code, 7, (some .int), 1, 12),
  (⟨"LinkHouseModel", "isTapeName", "()Z"⟩, prog_14_method_56_code, 3, (some .boolean), 0, 12)]
def pg_mn16 : List (MethodName × ByteArray × Nat × Option FieldType × Nat × Nat) := [
  (⟨"LinkHouseModel", "toldAt", "([B[II)I"⟩, prog_14_method_55_code, 7, (some .int), 3, 12),
  (⟨"LinkHouseModel", "wish", "()I"⟩, prog_14_method_58_code, 5, (some .int), 0, 12),
  (⟨"LinkHouseModel", "forget", "()V"⟩, prog_14_method_59_code, 1, none, 0, 12),
  (⟨"LinkHouseModel", "link", "(Z)I"⟩, prog_14_method_115_code, 3, (some .int), 1, 12),
  (⟨"LinkHouseModel", "tellNames", "()V"⟩, prog_14_method_53_code, 3, none, 0, 12),
  (⟨"LinkHouseModel", "entered", "([BII)I"⟩, prog_14_method_51_code, 6, (some .int), 3, 12),
  (⟨"LinkHouseModel", "find", "([BII)I"⟩, prog_14_method_49_code, 7, (some .int), 3, 12),
  (⟨"LinkHouseModel", "takeAll", "()V"⟩, prog_14_method_70_code, 2, none, 0, 12),
  (⟨"LinkHouseModel", "takeFrom", "(I)V"⟩, prog_14_method_69_code, 6, none, 1, 12),
  (⟨"LinkHouseModel", "helps", "(I)I"⟩, prog_14_method_68_code, 5, (some .int), 1, 12),
  (⟨"LinkHouseModel", "nameOf", "(II)I"⟩, prog_14_method_50_code, 3, (some .int), 2, 12),
  (⟨"LinkHouseModel", "nameAt", "(II)I"⟩, prog_14_method_24_code, 3, (some .int), 2, 12),
  (⟨"LinkHouseModel", "nameEnd", "(II)I"⟩, prog_14_method_25_code, 4, (some .int), 2, 12),
  (⟨"LinkHouseModel", "take", "(I)V"⟩, prog_14_method_67_code, 6, none, 1, 12),
  (⟨"LinkHouseModel", "dropGroups", "(I)V"⟩, prog_14_method_66_code, 5, none, 1, 12),
  (⟨"LinkHouseModel", "object", "(I)I"⟩, prog_14_method_71_code, 2, (some .int), 1, 12)]
def pg_mn17 : List (MethodName × ByteArray × Nat × Option FieldType × Nat × Nat) := [
  (⟨"LinkHouseModel", "isAgain", "(II)Z"⟩, prog_14_method_65_code, 8, (some .boolean), 2, 12),
  (⟨"LinkHouseModel", "enter", "(II)I"⟩, prog_14_method_52_code, 3, (some .int), 2, 12),
  (⟨"LinkHouseModel", "come", "(III)Z"⟩, prog_14_method_63_code, 6, (some .boolean), 3, 12),
  (⟨"LinkHouseModel", "strengthOf", "(II)I"⟩, prog_14_method_61_code, 3, (some .int), 2, 12),
  (⟨"LinkHouseModel", "whereNow", "(II)I"⟩, prog_14_method_60_code, 4, (some .int), 2, 12),
  (⟨"LinkHouseModel", "say", "([BII)V"⟩, prog_14_method_64_code, 5, none, 3, 12),
  (⟨"LinkHouseModel", "ownNames", "()V"⟩, prog_14_method_72_code, 4, none, 0, 12),
  (⟨"LinkHouseModel", "look2", "()V"⟩, prog_14_method_83_code, 5, none, 0, 12),
  (⟨"LinkHouseModel", "start", "()I"⟩, prog_14_method_84_code, 2, (some .int), 0, 12),
  (⟨"LinkHouseModel", "reach", "()V"⟩, prog_14_method_76_code, 3, none, 0, 12),
  (⟨"LinkHouseModel", "reachName", "(I)V"⟩, prog_14_method_74_code, 2, none, 1, 12),
  (⟨"LinkHouseModel", "isGiven", "(I)Z"⟩, prog_14_method_54_code, 2, (some .boolean), 1, 12),
  (⟨"LinkHouseModel", "reachSection", "(II)V"⟩, prog_14_method_73_code, 3, none, 2, 12),
  (⟨"LinkHouseModel", "reachSites", "(I)V"⟩, prog_14_method_75_code, 6, none, 1, 12),
  (⟨"LinkHouseModel", "lay", "()V"⟩, prog_14_method_86_code, 6, none, 0, 12),
  (⟨"LinkHouseModel", "stays", "(II)Z"⟩, prog_14_method_62_code, 3, (some .boolean), 2, 12)]
def pg_mn18 : List (MethodName × ByteArray × Nat × Option FieldType × Nat × Nat) := [
  (⟨"LinkHouseModel", "group", "(II)I"⟩, prog_14_method_16_code, 4, (some .int), 2, 12),
  (⟨"LinkHouseModel", "findPool", "()V"⟩, prog_14_method_93_code, 7, none, 0, 12),
  (⟨"LinkHouseModel", "isStrings", "(II)Z"⟩, prog_14_method_89_code, 5, (some .boolean), 2, 12),
  (⟨"LinkHouseModel", "nodeOf", "(IIZ)I"⟩, prog_14_method_91_code, 6, (some .int), 3, 12),
  (⟨"LinkHouseModel", "childOf", "(IBZ)I"⟩, prog_14_method_90_code, 5, (some .int), 3, 12),
  (⟨"LinkHouseModel", "toPool", "(II)V"⟩, prog_14_method_92_code, 6, none, 2, 12),
  (⟨"LinkHouseModel", "findSlots", "()V"⟩, prog_14_method_82_code, 8, none, 0, 12),
  (⟨"LinkHouseModel", "isShort", "(III)Z"⟩, prog_14_method_81_code, 4, (some .boolean), 3, 12),
  (⟨"LinkHouseModel", "shortKind", "(III)I"⟩, prog_14_method_80_code, 13, (some .int), 3, 12),
  (⟨"LinkHouseModel", "isInside", "(II)Z"⟩, prog_14_method_78_code, 5, (some .boolean), 2, 12),
  (⟨"LinkHouseModel", "isSectionNow", "(II)Z"⟩, prog_14_method_79_code, 3, (some .boolean), 2, 12),
  (⟨"LinkHouseModel", "slotOf", "(IIZ)I"⟩, prog_14_method_77_code, 7, (some .int), 3, 12),
  (⟨"LinkHouseModel", "layout", "()V"⟩, prog_14_method_102_code, 4, none, 0, 12),
  (⟨"LinkHouseModel", "findSegments", "()V"⟩, prog_14_method_95_code, 3, none, 0, 12),
  (⟨"LinkHouseModel", "segmentOf", "(I)I"⟩, prog_14_method_87_code, 1, (some .int), 1, 12),
  (⟨"LinkHouseModel", "isCommon", "(I)Z"⟩, prog_14_method_88_code, 2, (some .boolean), 1, 12)]
def pg_mn19 : List (MethodName × ByteArray × Nat × Option FieldType × Nat × Nat) := [
  (⟨"LinkHouseModel", "isThreaded", "()Z"⟩, prog_14_method_99_code, 3, (some .boolean), 0, 12),
  (⟨"LinkHouseModel", "placeSegment", "(IJ)V"⟩, prog_14_method_101_code, 10, none, 2, 12),
  (⟨"LinkHouseModel", "up", "(JJ)J"⟩, prog_14_method_85_code, 4, (some .long), 2, 12),
  (⟨"LinkHouseModel", "placeGroup", "(IJZ)J"⟩, prog_14_method_96_code, 10, (some .long), 3, 12),
  (⟨"LinkHouseModel", "placeStrings", "(J)J"⟩, prog_14_method_98_code, 5, (some .long), 1, 12),
  (⟨"LinkHouseModel", "byteAddress", "(IIJ)J"⟩, prog_14_method_94_code, 7, (some .long), 3, 12),
  (⟨"LinkHouseModel", "placeCommons", "(JZ)J"⟩, prog_14_method_97_code, 8, (some .long), 2, 12),
  (⟨"LinkHouseModel", "findTemplate", "()V"⟩, prog_14_method_100_code, 7, none, 0, 12),
  (⟨"LinkHouseModel", "ownAddress", "(I)J"⟩, prog_14_method_103_code, 2, (some .long), 1, 12),
  (⟨"LinkHouseModel", "own", "(II)J"⟩, prog_14_method_104_code, 5, (some .long), 2, 12),
  (⟨"LinkHouseModel", "sites", "(Z)V"⟩, prog_14_method_110_code, 6, none, 1, 12),
  (⟨"LinkHouseModel", "one", "(IIIZ)V"⟩, prog_14_method_111_code, 11, none, 4, 12),
  (⟨"LinkHouseModel", "siteValue", "(III)J"⟩, prog_14_method_108_code, 12, (some .long), 3, 12),
  (⟨"LinkHouseModel", "symbolAddress", "(II)J"⟩, prog_14_method_105_code, 3, (some .long), 2, 12),
  (⟨"LinkHouseModel", "siteAddress", "(III)J"⟩, prog_14_method_106_code, 4, (some .long), 3, 12),
  (⟨"LinkHouseModel", "isOfStrings", "(II)Z"⟩, prog_14_method_107_code, 5, (some .boolean), 2, 12)]
def pg_mn20 : List (MethodName × ByteArray × Nat × Option FieldType × Nat × Nat) := [
  (⟨"LinkHouseModel", "fillSite", "(IJII)V"⟩, prog_14_method_112_code, 6, none, 4, 12),
  (⟨"LinkHouseModel", "put", "(IJI)V"⟩, prog_14_method_113_code, 6, none, 3, 12),
  (⟨"LinkHouseModel", "runsOver", "(JJ)Z"⟩, prog_14_method_109_code, 5, (some .boolean), 2, 12),
  (⟨"LinkHouseModel", "write", "()V"⟩, prog_14_method_114_code, 7, none, 0, 12),
  (⟨"LinkHouseModel", "keepLink", "()V"⟩, prog_14_method_116_code, 6, none, 0, 12),
  (⟨"LinkHouseModel", "named", "()I"⟩, prog_14_method_118_code, 11, (some .int), 0, 12),
  (⟨"LinkHouseModel", "wider", "(I)I"⟩, prog_14_method_129_code, 2, (some .int), 1, 12),
  (⟨"LinkHouseModel", "numberOf", "(I)I"⟩, prog_14_method_117_code, 4, (some .int), 1, 12),
  (⟨"LinkHouseModel", "namedSegment", "(II)V"⟩, prog_14_method_119_code, 3, none, 2, 12),
  (⟨"LinkHouseModel", "cause", "(II)I"⟩, prog_14_method_120_code, 4, (some .int), 2, 12),
  (⟨"LinkHouseModel", "sum", "(III)J"⟩, prog_14_method_121_code, 9, (some .long), 3, 12),
  (⟨"LinkHouseModel", "merge", "()I"⟩, prog_14_method_140_code, 2, (some .int), 0, 12),
  (⟨"LinkHouseModel", "merges", "()Z"⟩, prog_14_method_132_code, 3, (some .boolean), 0, 12),
  (⟨"LinkHouseModel", "countParts", "()V"⟩, prog_14_method_123_code, 4, none, 0, 12),
  (⟨"LinkHouseModel", "part", "(II)V"⟩, prog_14_method_122_code, 3, none, 2, 12),
  (⟨"LinkHouseModel", "countSymbols", "()V"⟩, prog_14_method_125_code, 3, none, 0, 12)]
def pg_mn21 : List (MethodName × ByteArray × Nat × Option FieldType × Nat × Nat) := [
  (⟨"LinkHouseModel", "numberName", "(I)V"⟩, prog_14_method_124_code, 2, none, 1, 12),
  (⟨"LinkHouseModel", "mergedRow", "(I)I"⟩, prog_14_method_131_code, 2, (some .int), 1, 12),
  (⟨"LinkHouseModel", "placeOf", "(I)I"⟩, prog_14_method_130_code, 4, (some .int), 1, 12),
  (⟨"LinkHouseModel", "partSize", "(I)I"⟩, prog_14_method_127_code, 2, (some .int), 1, 12),
  (⟨"LinkHouseModel", "isPart", "(IJ)Z"⟩, prog_14_method_126_code, 4, (some .boolean), 2, 12),
  (⟨"LinkHouseModel", "textMany", "()I"⟩, prog_14_method_128_code, 3, (some .int), 0, 12),
  (⟨"LinkHouseModel", "mergedSites", "(I)V"⟩, prog_14_method_135_code, 7, none, 1, 12),
  (⟨"LinkHouseModel", "mergedRows", "(IJJIIJJ)V"⟩, prog_14_method_133_code, 13, none, 7, 12),
  (⟨"LinkHouseModel", "mergedSection", "(I)V"⟩, prog_14_method_134_code, 5, none, 1, 12),
  (⟨"LinkHouseModel", "mergedLocals", "()V"⟩, prog_14_method_137_code, 7, none, 0, 12),
  (⟨"LinkHouseModel", "mergedSymbol", "(IIIJJ)V"⟩, prog_14_method_136_code, 9, none, 5, 12),
  (⟨"LinkHouseModel", "mergedNames", "()V"⟩, prog_14_method_138_code, 5, none, 0, 12),
  (⟨"LinkHouseModel", "mergedDefinition", "(III)V"⟩, prog_14_method_139_code, 6, none, 3, 12),
  (⟨"LinkHouseModel", "pack", "()I"⟩, prog_14_method_146_code, 12, (some .int), 0, 12),
  (⟨"LinkHouseModel", "findObjects", "()V"⟩, prog_14_method_141_code, 3, none, 0, 12),
  (⟨"LinkHouseModel", "isDefining", "(II)Z"⟩, prog_14_method_142_code, 3, (some .boolean), 2, 12)]
def pg_mn22 : List (MethodName × ByteArray × Nat × Option FieldType × Nat × Nat) := [
  (⟨"LinkHouseModel", "ahead", "(II)V"⟩, prog_14_method_144_code, 4, none, 2, 12),
  (⟨"LinkHouseModel", "digits", "(II)V"⟩, prog_14_method_143_code, 5, none, 2, 12),
  (⟨"LinkHouseModel", "highFirst", "(II)V"⟩, prog_14_method_145_code, 4, none, 2, 12),
  (⟨"LinkHouseModel", "list", "(II)I"⟩, prog_14_method_149_code, 7, (some .int), 2, 12),
  (⟨"LinkHouseModel", "sixteen", "(IJ)V"⟩, prog_14_method_147_code, 6, none, 2, 12),
  (⟨"LinkHouseModel", "letterOf", "(II)I"⟩, prog_14_method_148_code, 6, (some .int), 2, 12),
  (⟨"LinkHouseModel", "map", "()I"⟩, prog_14_method_152_code, 5, (some .int), 0, 12),
  (⟨"LinkHouseModel", "wide", "(I)I"⟩, prog_14_method_150_code, 1, (some .int), 1, 12),
  (⟨"LinkHouseModel", "sayNumber", "(II)V"⟩, prog_14_method_151_code, 3, none, 2, 12),
  (⟨"LinkHouseModel", "boot", "(Z)I"⟩, prog_14_method_157_code, 3, (some .int), 1, 12),
  (⟨"LinkHouseModel", "triedError", "()I"⟩, prog_14_method_156_code, 7, (some .int), 0, 12),
  (⟨"LinkHouseModel", "isExecutable", "()Z"⟩, prog_14_method_154_code, 2, (some .boolean), 0, 12),
  (⟨"LinkHouseModel", "triedNum", "(II)J"⟩, prog_14_method_153_code, 6, (some .long), 2, 12),
  (⟨"LinkHouseModel", "rowError", "(I)I"⟩, prog_14_method_155_code, 13, (some .int), 1, 12),
  (⟨"LinkHouseModel", "findMemoryNames", "()V"⟩, prog_14_method_158_code, 18, none, 0, 12),
  (⟨"LinkHouseModel", "memorySymbol", "(IJJ)V"⟩, prog_14_method_159_code, 10, none, 3, 12)]
def pg_mn23 : List (MethodName × ByteArray × Nat × Option FieldType × Nat × Nat) := [
  (⟨"LinkHouseModel", "near", "(J)J"⟩, prog_14_method_160_code, 6, (some .long), 1, 12),
  (⟨"LinkHouseModel", "rowOf", "(J)I"⟩, prog_14_method_161_code, 4, (some .int), 1, 12),
  (⟨"LinkHouseModel", "peek", "(J)I"⟩, prog_14_method_162_code, 6, (some .int), 1, 12),
  (⟨"LinkHouseModel", "flags", "(J)J"⟩, prog_14_method_163_code, 4, (some .long), 1, 12),
  (⟨"LinkHouseModel", "address", "()J"⟩, prog_14_method_164_code, 2, (some .long), 0, 12),
  (⟨"LinkHouseModel", "taken", "(II)Z"⟩, prog_14_method_165_code, 3, (some .boolean), 2, 12),
  (⟨"LinkHouseModel", "section", "(II)I"⟩, prog_14_method_166_code, 3, (some .int), 2, 12),
  (⟨"LinkHouseModel", "place", "(I)J"⟩, prog_14_method_167_code, 2, (some .long), 1, 12),
  (⟨"LinkHouseModel", "out", "(I)J"⟩, prog_14_method_168_code, 5, (some .long), 1, 12),
  (⟨"LinkHouseModel", "look", "(I)J"⟩, prog_14_method_169_code, 2, (some .long), 1, 12),
  (⟨"java/util/Arrays", "fill", "([IIII)V"⟩, prog_29_method_104_code, 5, none, 4, 17),
  (⟨"java/util/Arrays", "rangeCheck", "(III)V"⟩, prog_29_method_30_code, 3, none, 3, 17),
  (⟨"java/util/Arrays", "fill", "([JJ)V"⟩, prog_29_method_101_code, 5, none, 2, 17),
  (⟨"java/util/Arrays", "fill", "([BIIB)V"⟩, prog_29_method_110_code, 5, none, 4, 17),
  (⟨"LinkHouseLaw", "feed", "(LLinkHouse;IJ[J)I"⟩, method_3_code, 6, (some .int), 4, 16),
  (⟨"LinkHouseLaw", "add", "(LLinkHouse;[J)I"⟩, method_4_code, 3, (some .int), 2, 16)]
def pg_mn24 : List (MethodName × ByteArray × Nat × Option FieldType × Nat × Nat) := [
  (⟨"LinkHouseLaw", "drop", "(LLinkHouse;[J)I"⟩, method_5_code, 3, (some .int), 2, 16),
  (⟨"LinkHouseLaw", "give", "(LLinkHouse;J[J)I"⟩, method_6_code, 5, (some .int), 3, 16),
  (⟨"LinkHouseLaw", "wish", "(LLinkHouse;[J)I"⟩, method_7_code, 3, (some .int), 2, 16),
  (⟨"LinkHouseLaw", "named", "(LLinkHouse;[J)I"⟩, method_8_code, 3, (some .int), 2, 16),
  (⟨"LinkHouseLaw", "list", "(LLinkHouse;II[J)I"⟩, method_9_code, 5, (some .int), 4, 16),
  (⟨"LinkHouseLaw", "sum", "(LLinkHouse;III[J)I"⟩, method_10_code, 6, (some .int), 5, 16),
  (⟨"LinkHouseLaw", "map", "(LLinkHouse;[J)I"⟩, method_11_code, 3, (some .int), 2, 16),
  (⟨"LinkHouseLaw", "address", "(LLinkHouse;[J)I"⟩, method_12_code, 3, (some .int), 2, 16),
  (⟨"LinkHouseLaw", "taken", "(LLinkHouse;II[J)I"⟩, method_13_code, 5, (some .int), 4, 16),
  (⟨"LinkHouseLaw", "cause", "(LLinkHouse;II[J)I"⟩, method_14_code, 5, (some .int), 4, 16),
  (⟨"LinkHouseLaw", "section", "(LLinkHouse;II[J)I"⟩, method_15_code, 5, (some .int), 4, 16),
  (⟨"LinkHouseLaw", "place", "(LLinkHouse;I[J)I"⟩, method_16_code, 4, (some .int), 3, 16),
  (⟨"LinkHouseLaw", "out", "(LLinkHouse;I[J)I"⟩, method_17_code, 4, (some .int), 3, 16),
  (⟨"LinkHouseLaw", "look", "(LLinkHouse;I[J)I"⟩, method_18_code, 4, (some .int), 3, 16),
  (⟨"LinkHouseLaw", "law", "([I)Z"⟩, code, 8, (some .boolean), 1, 16)]
def pg_mm : List (List (MethodName × ByteArray × Nat × Option FieldType × Nat × Nat)) := [pg_mn0, pg_mn1, pg_mn2, pg_mn3, pg_mn4, pg_mn5, pg_mn6, pg_mn7, pg_mn8, pg_mn9, pg_mn10, pg_mn11, pg_mn12, pg_mn13, pg_mn14, pg_mn15, pg_mn16, pg_mn17, pg_mn18, pg_mn19, pg_mn20, pg_mn21, pg_mn22, pg_mn23, pg_mn24]
def pg_mx (mi : Nat) : MethodName × ByteArray × Nat × Option FieldType × Nat × Nat := (pg_mm.getD (mi / 16) []).getD (mi % 16) (⟨"", "", ""⟩, ⟨#[]⟩, 0, none, 0, 0)
def pg_mn (mi : Nat) : MethodName := (pg_mx mi).1
def pg_by (mi : Nat) : ByteArray := (pg_mx mi).2.1
def pg_ml (mi : Nat) : Nat := (pg_mx mi).2.2.1
def pg_rt (mi : Nat) : Option FieldType := (pg_mx mi).2.2.2.1
def pg_np (mi : Nat) : Nat := (pg_mx mi).2.2.2.2.1
def pg_oc (mi : Nat) : Nat := (pg_mx mi).2.2.2.2.2
abbrev m_H_init : Nat := 0
abbrev m_H_link : Nat := 1
abbrev m_H_runLink : Nat := 2
abbrev m_H_up : Nat := 3
abbrev m_H_siteWidth : Nat := 4
abbrev m_H_merge : Nat := 5
abbrev m_H_publishDraft : Nat := 6
abbrev m_H_forget : Nat := 7
abbrev m_H_pack : Nat := 8
abbrev m_H_near : Nat := 9
abbrev m_H_above : Nat := 10
abbrev m_H_boot : Nat := 11
abbrev m_H_peek : Nat := 12
abbrev m_H_flags : Nat := 13
abbrev m_H_feed : Nat := 14
abbrev m_H_add : Nat := 15
abbrev m_H_readFile : Nat := 16
abbrev m_H_readArchive : Nat := 17
abbrev m_H_memberSize : Nat := 18
abbrev m_H_isPower : Nat := 19
abbrev m_H_clearFile : Nat := 20
abbrev m_H_drop : Nat := 21
abbrev m_H_give : Nat := 22
abbrev m_H_readTapeName : Nat := 23
abbrev m_H_wish : Nat := 24
abbrev m_H_named : Nat := 25
abbrev m_H_list : Nat := 26
abbrev m_H_objectAt : Nat := 27
abbrev m_H_memberAt : Nat := 28
abbrev m_H_sum : Nat := 29
abbrev m_H_map : Nat := 30
abbrev m_H_address : Nat := 31
abbrev m_H_taken : Nat := 32
abbrev m_H_cause : Nat := 33
abbrev m_H_section : Nat := 34
abbrev m_H_place : Nat := 35
abbrev m_H_out : Nat := 36
abbrev m_H_look : Nat := 37
abbrev m_H_lookAtLink : Nat := 38
abbrev m_Filler_init : Nat := 39
abbrev m_Filler_write : Nat := 40
abbrev m_Filler_writeHead : Nat := 41
abbrev m_Filler_writeRow : Nat := 42
abbrev m_Filler_spotOf : Nat := 43
abbrev m_Filler_fillSites : Nat := 44
abbrev m_Filler_fillSite : Nat := 45
abbrev m_Filler_fillShort : Nat := 46
abbrev m_Filler_slotAddress : Nat := 47
abbrev m_Filler_sumFor : Nat := 48
abbrev m_Layout_init : Nat := 49
abbrev m_Layout_lay : Nat := 50
abbrev m_Layout_gather : Nat := 51
abbrev m_Layout_findSlots : Nat := 52
abbrev m_Layout_findSlot : Nat := 53
abbrev m_Layout_slotOf : Nat := 54
abbrev m_Layout_slotKey : Nat := 55
abbrev m_Layout_findSegments : Nat := 56
abbrev m_Layout_partAt : Nat := 57
abbrev m_Layout_segmentOf : Nat := 58
abbrev m_Layout_isLaidCommon : Nat := 59
abbrev m_Layout_layText : Nat := 60
abbrev m_Layout_countSegments : Nat := 61
abbrev m_Layout_layData : Nat := 62
abbrev m_Layout_layGroup : Nat := 63
abbrev m_Layout_layTemplate : Nat := 64
abbrev m_Layout_firstOf : Nat := 65
abbrev m_Layout_addressOf : Nat := 66
abbrev m_Layout_ownAddress : Nat := 67
abbrev m_Layout_isTooLarge : Nat := 68
abbrev m_Layout_slotValue : Nat := 69
abbrev m_Layout_symbolAddress : Nat := 70
abbrev m_Link_init : Nat := 71
abbrev m_Link_resolve : Nat := 72
abbrev m_Link_begin : Nat := 73
abbrev m_Link_define : Nat := 74
abbrev m_Link_takeObject : Nat := 75
abbrev m_Link_openParts : Nat := 76
abbrev m_Link_part : Nat := 77
abbrev m_Link_enterNames : Nat := 78
abbrev m_Link_dropGroups : Nat := 79
abbrev m_Link_nameOf : Nat := 80
abbrev m_Link_dropParts : Nat := 81
abbrev m_Link_defineNames : Nat := 82
abbrev m_Link_settle : Nat := 83
abbrev m_Link_takeMembers : Nat := 84
abbrev m_Link_firstWanted : Nat := 85
abbrev m_Link_isWanted : Nat := 86
abbrev m_Link_defineOwn : Nat := 87
abbrev m_Link_isNameLeft : Nat := 88
abbrev m_Link_keepReached : Nat := 89
abbrev m_Link_definedAt : Nat := 90
abbrev m_Link_reachName : Nat := 91
abbrev m_Link_reachPart : Nat := 92
abbrev m_Link_reachFrom : Nat := 93
abbrev m_Link_object : Nat := 94
abbrev m_Link_reachSymbol : Nat := 95
abbrev m_Link_partOf : Nat := 96
abbrev m_Link_stayingTarget : Nat := 97
abbrev m_Link_isShort : Nat := 98
abbrev m_Link_countStaying : Nat := 99
abbrev m_Memory_init : Nat := 100
abbrev m_Memory_rowAt : Nat := 101
abbrev m_Memory_nearest : Nat := 102
abbrev m_Memory_valueOf : Nat := 103
abbrev m_Memory_isName : Nat := 104
abbrev m_Memory_nameStart : Nat := 105
abbrev m_Memory_errorOf : Nat := 106
abbrev m_Memory_rowError : Nat := 107
abbrev m_Memory_load : Nat := 108
abbrev m_Memory_findNames : Nat := 109
abbrev m_Memory_byteAt : Nat := 110
abbrev m_Memory_flagsAt : Nat := 111
abbrev m_Name_init : Nat := 112
abbrev m_Name_setText : Nat := 113
abbrev m_Name_wipe : Nat := 114
abbrev m_Name_append : Nat := 115
abbrev m_Name_renew : Nat := 116
abbrev m_Name_read : Nat := 117
abbrev m_Name_isMissedOrWished : Nat := 118
abbrev m_Name_writeTo : Nat := 119
abbrev m_Name_isDefinedByInput : Nat := 120
abbrev m_Names_init : Nat := 121
abbrev m_Names_at : Nat := 122
abbrev m_Names_enter : Nat := 123
abbrev m_Names_find : Nat := 124
abbrev m_ObjectFile_init : Nat := 125
abbrev m_ObjectFile_groupOf : Nat := 126
abbrev m_ObjectFile_lengthOf : Nat := 127
abbrev m_ObjectFile_num : Nat := 128
abbrev m_ObjectFile_alignOf : Nat := 129
abbrev m_ObjectFile_placeOf : Nat := 130
abbrev m_ObjectFile_isStrings : Nat := 131
abbrev m_ObjectFile_bindOf : Nat := 132
abbrev m_ObjectFile_nameStart : Nat := 133
abbrev m_ObjectFile_typeOf : Nat := 134
abbrev m_ObjectFile_infoOf : Nat := 135
abbrev m_ObjectFile_whereOf : Nat := 136
abbrev m_ObjectFile_isDefining : Nat := 137
abbrev m_ObjectFile_targetOf : Nat := 138
abbrev m_ObjectFile_sitesOf : Nat := 139
abbrev m_ObjectFile_valueOf : Nat := 140
abbrev m_ObjectFile_kindOf : Nat := 141
abbrev m_ObjectFile_flagsOf : Nat := 142
abbrev m_ObjectFile_open : Nat := 143
abbrev m_ObjectFile_readError : Nat := 144
abbrev m_ObjectFile_isHeadGood : Nat := 145
abbrev m_ObjectFile_areRowsGood : Nat := 146
abbrev m_ObjectFile_holds : Nat := 147
abbrev m_ObjectFile_sectionsError : Nat := 148
abbrev m_ObjectFile_findGroup : Nat := 149
abbrev m_ObjectFile_findSymbols : Nat := 150
abbrev m_ObjectFile_linkOf : Nat := 151
abbrev m_ObjectFile_isSymbolGood : Nat := 152
abbrev m_ObjectFile_isNameGood : Nat := 153
abbrev m_ObjectFile_areSitesGood : Nat := 154
abbrev m_ObjectFile_isSiteGood : Nat := 155
abbrev m_ObjectFile_areGroupsGood : Nat := 156
abbrev m_ObjectFile_findStrings : Nat := 157
abbrev m_ObjectFile_isStringRow : Nat := 158
abbrev m_Part_init : Nat := 159
abbrev m_Pool_init : Nat := 160
abbrev m_Pool_clear : Nat := 161
abbrev m_Pool_collect : Nat := 162
abbrev m_Pool_admit : Nat := 163
abbrev m_Pool_isEnd : Nat := 164
abbrev m_Pool_addressIn : Nat := 165
abbrev m_Row_init : Nat := 166
abbrev m_Row_at : Nat := 167
abbrev m_Row_clear : Nat := 168
abbrev m_Row_putAll : Nat := 169
abbrev m_Row_put : Nat := 170
abbrev m_Row_fillTo : Nat := 171
abbrev m_Row_cover : Nat := 172
abbrev m_Row_set : Nat := 173
abbrev m_Row_copy : Nat := 174
abbrev m_Row_putDecimal : Nat := 175
abbrev m_Row_putHighestFirst : Nat := 176
abbrev m_Row_num : Nat := 177
abbrev m_Row_nameLength : Nat := 178
abbrev m_Row_begins : Nat := 179
abbrev m_Row_holds : Nat := 180
abbrev m_Row_putHex : Nat := 181
abbrev m_Scribe_init : Nat := 182
abbrev m_Scribe_writeMerged : Nat := 183
abbrev m_Scribe_numberParts : Nat := 184
abbrev m_Scribe_numberSymbols : Nat := 185
abbrev m_Scribe_listName : Nat := 186
abbrev m_Scribe_mergeParts : Nat := 187
abbrev m_Scribe_nextPlace : Nat := 188
abbrev m_Scribe_putRow : Nat := 189
abbrev m_Scribe_endRow : Nat := 190
abbrev m_Scribe_mergeSites : Nat := 191
abbrev m_Scribe_freshSymbol : Nat := 192
abbrev m_Scribe_mergeSymbols : Nat := 193
abbrev m_Scribe_mergeLocal : Nat := 194
abbrev m_Scribe_putSymbol : Nat := 195
abbrev m_Scribe_mergeName : Nat := 196
abbrev m_Scribe_mergeNames : Nat := 197
abbrev m_Scribe_writePacked : Nat := 198
abbrev m_Scribe_isObject : Nat := 199
abbrev m_Scribe_writeIndex : Nat := 200
abbrev m_Scribe_writeAhead : Nat := 201
abbrev m_Scribe_writeObjects : Nat := 202
abbrev m_Scribe_writeNamed : Nat := 203
abbrev m_Scribe_rowOf : Nat := 204
abbrev m_Scribe_writeSegmentRows : Nat := 205
abbrev m_Scribe_writeList : Nat := 206
abbrev m_Scribe_letterOf : Nat := 207
abbrev m_Scribe_writeMap : Nat := 208
abbrev m_M_init : Nat := 209
abbrev m_M_thrown : Nat := 210
abbrev m_M_feed : Nat := 211
abbrev m_M_throwing : Nat := 212
abbrev m_M_add : Nat := 213
abbrev m_M_fileError : Nat := 214
abbrev m_M_num : Nat := 215
abbrev m_M_objectError : Nat := 216
abbrev m_M_isHeader : Nat := 217
abbrev m_M_sections : Nat := 218
abbrev m_M_lies : Nat := 219
abbrev m_M_type : Nat := 220
abbrev m_M_row : Nat := 221
abbrev m_M_sectionError : Nat := 222
abbrev m_M_beginning : Nat := 223
abbrev m_M_size : Nat := 224
abbrev m_M_isKept : Nat := 225
abbrev m_M_flagsOf : Nat := 226
abbrev m_M_align : Nat := 227
abbrev m_M_isPower : Nat := 228
abbrev m_M_symbolsError : Nat := 229
abbrev m_M_symbols : Nat := 230
abbrev m_M_linkOf : Nat := 231
abbrev m_M_symbolMany : Nat := 232
abbrev m_M_isSymbol : Nat := 233
abbrev m_M_where : Nat := 234
abbrev m_M_symbol : Nat := 235
abbrev m_M_bind : Nat := 236
abbrev m_M_isName : Nat := 237
abbrev m_M_value : Nat := 238
abbrev m_M_symbolSize : Nat := 239
abbrev m_M_sitesError : Nat := 240
abbrev m_M_isSites : Nat := 241
abbrev m_M_info : Nat := 242
abbrev m_M_siteMany : Nat := 243
abbrev m_M_isSite : Nat := 244
abbrev m_M_site : Nat := 245
abbrev m_M_width : Nat := 246
abbrev m_M_isSlotted : Nat := 247
abbrev m_M_groupsError : Nat := 248
abbrev m_M_isGroup : Nat := 249
abbrev m_M_isGroupRight : Nat := 250
abbrev m_M_groupNumber : Nat := 251
abbrev m_M_isMembers : Nat := 252
abbrev m_M_drop : Nat := 253
abbrev m_M_give : Nat := 254
abbrev m_M_isTapeName : Nat := 255
abbrev m_M_toldAt : Nat := 256
abbrev m_M_wish : Nat := 257
abbrev m_M_forget : Nat := 258
abbrev m_M_link : Nat := 259
abbrev m_M_tellNames : Nat := 260
abbrev m_M_entered : Nat := 261
abbrev m_M_find : Nat := 262
abbrev m_M_takeAll : Nat := 263
abbrev m_M_takeFrom : Nat := 264
abbrev m_M_helps : Nat := 265
abbrev m_M_nameOf : Nat := 266
abbrev m_M_nameAt : Nat := 267
abbrev m_M_nameEnd : Nat := 268
abbrev m_M_take : Nat := 269
abbrev m_M_dropGroups : Nat := 270
abbrev m_M_object : Nat := 271
abbrev m_M_isAgain : Nat := 272
abbrev m_M_enter : Nat := 273
abbrev m_M_come : Nat := 274
abbrev m_M_strengthOf : Nat := 275
abbrev m_M_whereNow : Nat := 276
abbrev m_M_say : Nat := 277
abbrev m_M_ownNames : Nat := 278
abbrev m_M_look2 : Nat := 279
abbrev m_M_start : Nat := 280
abbrev m_M_reach : Nat := 281
abbrev m_M_reachName : Nat := 282
abbrev m_M_isGiven : Nat := 283
abbrev m_M_reachSection : Nat := 284
abbrev m_M_reachSites : Nat := 285
abbrev m_M_lay : Nat := 286
abbrev m_M_stays : Nat := 287
abbrev m_M_group : Nat := 288
abbrev m_M_findPool : Nat := 289
abbrev m_M_isStrings : Nat := 290
abbrev m_M_nodeOf : Nat := 291
abbrev m_M_childOf : Nat := 292
abbrev m_M_toPool : Nat := 293
abbrev m_M_findSlots : Nat := 294
abbrev m_M_isShort : Nat := 295
abbrev m_M_shortKind : Nat := 296
abbrev m_M_isInside : Nat := 297
abbrev m_M_isSectionNow : Nat := 298
abbrev m_M_slotOf : Nat := 299
abbrev m_M_layout : Nat := 300
abbrev m_M_findSegments : Nat := 301
abbrev m_M_segmentOf : Nat := 302
abbrev m_M_isCommon : Nat := 303
abbrev m_M_isThreaded : Nat := 304
abbrev m_M_placeSegment : Nat := 305
abbrev m_M_up : Nat := 306
abbrev m_M_placeGroup : Nat := 307
abbrev m_M_placeStrings : Nat := 308
abbrev m_M_byteAddress : Nat := 309
abbrev m_M_placeCommons : Nat := 310
abbrev m_M_findTemplate : Nat := 311
abbrev m_M_ownAddress : Nat := 312
abbrev m_M_own : Nat := 313
abbrev m_M_sites : Nat := 314
abbrev m_M_one : Nat := 315
abbrev m_M_siteValue : Nat := 316
abbrev m_M_symbolAddress : Nat := 317
abbrev m_M_siteAddress : Nat := 318
abbrev m_M_isOfStrings : Nat := 319
abbrev m_M_fillSite : Nat := 320
abbrev m_M_put : Nat := 321
abbrev m_M_runsOver : Nat := 322
abbrev m_M_write : Nat := 323
abbrev m_M_keepLink : Nat := 324
abbrev m_M_named : Nat := 325
abbrev m_M_wider : Nat := 326
abbrev m_M_numberOf : Nat := 327
abbrev m_M_namedSegment : Nat := 328
abbrev m_M_cause : Nat := 329
abbrev m_M_sum : Nat := 330
abbrev m_M_merge : Nat := 331
abbrev m_M_merges : Nat := 332
abbrev m_M_countParts : Nat := 333
abbrev m_M_part : Nat := 334
abbrev m_M_countSymbols : Nat := 335
abbrev m_M_numberName : Nat := 336
abbrev m_M_mergedRow : Nat := 337
abbrev m_M_placeOf : Nat := 338
abbrev m_M_partSize : Nat := 339
abbrev m_M_isPart : Nat := 340
abbrev m_M_textMany : Nat := 341
abbrev m_M_mergedSites : Nat := 342
abbrev m_M_mergedRows : Nat := 343
abbrev m_M_mergedSection : Nat := 344
abbrev m_M_mergedLocals : Nat := 345
abbrev m_M_mergedSymbol : Nat := 346
abbrev m_M_mergedNames : Nat := 347
abbrev m_M_mergedDefinition : Nat := 348
abbrev m_M_pack : Nat := 349
abbrev m_M_findObjects : Nat := 350
abbrev m_M_isDefining : Nat := 351
abbrev m_M_ahead : Nat := 352
abbrev m_M_digits : Nat := 353
abbrev m_M_highFirst : Nat := 354
abbrev m_M_list : Nat := 355
abbrev m_M_sixteen : Nat := 356
abbrev m_M_letterOf : Nat := 357
abbrev m_M_map : Nat := 358
abbrev m_M_wide : Nat := 359
abbrev m_M_sayNumber : Nat := 360
abbrev m_M_boot : Nat := 361
abbrev m_M_triedError : Nat := 362
abbrev m_M_isExecutable : Nat := 363
abbrev m_M_triedNum : Nat := 364
abbrev m_M_rowError : Nat := 365
abbrev m_M_findMemoryNames : Nat := 366
abbrev m_M_memorySymbol : Nat := 367
abbrev m_M_near : Nat := 368
abbrev m_M_rowOf : Nat := 369
abbrev m_M_peek : Nat := 370
abbrev m_M_flags : Nat := 371
abbrev m_M_address : Nat := 372
abbrev m_M_taken : Nat := 373
abbrev m_M_section : Nat := 374
abbrev m_M_place : Nat := 375
abbrev m_M_out : Nat := 376
abbrev m_M_look : Nat := 377
abbrev m_Arrays_fill : Nat := 378
abbrev m_Arrays_rangeCheck : Nat := 379
abbrev m_Arrays_fill_2 : Nat := 380
abbrev m_Arrays_fill_3 : Nat := 381
abbrev m_L_feed : Nat := 382
abbrev m_L_add : Nat := 383
abbrev m_L_drop : Nat := 384
abbrev m_L_give : Nat := 385
abbrev m_L_wish : Nat := 386
abbrev m_L_named : Nat := 387
abbrev m_L_list : Nat := 388
abbrev m_L_sum : Nat := 389
abbrev m_L_map : Nat := 390
abbrev m_L_address : Nat := 391
abbrev m_L_taken : Nat := 392
abbrev m_L_cause : Nat := 393
abbrev m_L_section : Nat := 394
abbrev m_L_place : Nat := 395
abbrev m_L_out : Nat := 396
abbrev m_L_look : Nat := 397
abbrev m_L_law : Nat := 398
set_option maxRecDepth 1000000 in
theorem pg_w0 : pg_tb 35 = some (.code (pg_mn 0) (pg_by 0) (pg_ml 0) (pg_rt 0)) := by rfl
set_option maxRecDepth 1000000 in
theorem pg_w1 : pg_tb 799 = some (.code (pg_mn 1) (pg_by 1) (pg_ml 1) (pg_rt 1)) := by rfl
set_option maxRecDepth 1000000 in
theorem pg_w2 : pg_tb 803 = some (.code (pg_mn 2) (pg_by 2) (pg_ml 2) (pg_rt 2)) := by rfl
set_option maxRecDepth 1000000 in
theorem pg_w3 : pg_tb 1388 = some (.code (pg_mn 3) (pg_by 3) (pg_ml 3) (pg_rt 3)) := by rfl
set_option maxRecDepth 1000000 in
theorem pg_w4 : pg_tb 1518 = some (.code (pg_mn 4) (pg_by 4) (pg_ml 4) (pg_rt 4)) := by rfl
set_option maxRecDepth 1000000 in
theorem pg_w5 : pg_tb 1571 = some (.code (pg_mn 5) (pg_by 5) (pg_ml 5) (pg_rt 5)) := by rfl
set_option maxRecDepth 1000000 in
theorem pg_w6 : pg_tb 1672 = some (.code (pg_mn 6) (pg_by 6) (pg_ml 6) (pg_rt 6)) := by rfl
set_option maxRecDepth 1000000 in
theorem pg_w7 : pg_tb 1676 = some (.code (pg_mn 7) (pg_by 7) (pg_ml 7) (pg_rt 7)) := by rfl
set_option maxRecDepth 1000000 in
theorem pg_w8 : pg_tb 1680 = some (.code (pg_mn 8) (pg_by 8) (pg_ml 8) (pg_rt 8)) := by rfl
set_option maxRecDepth 1000000 in
theorem pg_w9 : pg_tb 1721 = some (.code (pg_mn 9) (pg_by 9) (pg_ml 9) (pg_rt 9)) := by rfl
set_option maxRecDepth 1000000 in
theorem pg_w10 : pg_tb 1728 = some (.code (pg_mn 10) (pg_by 10) (pg_ml 10) (pg_rt 10)) := by rfl
set_option maxRecDepth 1000000 in
theorem pg_w11 : pg_tb 1762 = some (.code (pg_mn 11) (pg_by 11) (pg_ml 11) (pg_rt 11)) := by rfl
set_option maxRecDepth 1000000 in
theorem pg_w12 : pg_tb 1802 = some (.code (pg_mn 12) (pg_by 12) (pg_ml 12) (pg_rt 12)) := by rfl
set_option maxRecDepth 1000000 in
theorem pg_w13 : pg_tb 1811 = some (.code (pg_mn 13) (pg_by 13) (pg_ml 13) (pg_rt 13)) := by rfl
set_option maxRecDepth 1000000 in
theorem pg_w14 : pg_tb 1825 = some (.code (pg_mn 14) (pg_by 14) (pg_ml 14) (pg_rt 14)) := by rfl
set_option maxRecDepth 1000000 in
theorem pg_w15 : pg_tb 1852 = some (.code (pg_mn 15) (pg_by 15) (pg_ml 15) (pg_rt 15)) := by rfl
set_option maxRecDepth 1000000 in
theorem pg_w16 : pg_tb 1857 = some (.code (pg_mn 16) (pg_by 16) (pg_ml 16) (pg_rt 16)) := by rfl
set_option maxRecDepth 1000000 in
theorem pg_w17 : pg_tb 1863 = some (.code (pg_mn 17) (pg_by 17) (pg_ml 17) (pg_rt 17)) := by rfl
set_option maxRecDepth 1000000 in
theorem pg_w18 : pg_tb 1867 = some (.code (pg_mn 18) (pg_by 18) (pg_ml 18) (pg_rt 18)) := by rfl
set_option maxRecDepth 1000000 in
theorem pg_w19 : pg_tb 1912 = some (.code (pg_mn 19) (pg_by 19) (pg_ml 19) (pg_rt 19)) := by rfl
set_option maxRecDepth 1000000 in
theorem pg_w20 : pg_tb 1968 = some (.code (pg_mn 20) (pg_by 20) (pg_ml 20) (pg_rt 20)) := by rfl
set_option maxRecDepth 1000000 in
theorem pg_w21 : pg_tb 1975 = some (.code (pg_mn 21) (pg_by 21) (pg_ml 21) (pg_rt 21)) := by rfl
set_option maxRecDepth 1000000 in
theorem pg_w22 : pg_tb 1983 = some (.code (pg_mn 22) (pg_by 22) (pg_ml 22) (pg_rt 22)) := by rfl
set_option maxRecDepth 1000000 in
theorem pg_w23 : pg_tb 1987 = some (.code (pg_mn 23) (pg_by 23) (pg_ml 23) (pg_rt 23)) := by rfl
set_option maxRecDepth 1000000 in
theorem pg_w24 : pg_tb 2000 = some (.code (pg_mn 24) (pg_by 24) (pg_ml 24) (pg_rt 24)) := by rfl
set_option maxRecDepth 1000000 in
theorem pg_w25 : pg_tb 2008 = some (.code (pg_mn 25) (pg_by 25) (pg_ml 25) (pg_rt 25)) := by rfl
set_option maxRecDepth 1000000 in
theorem pg_w26 : pg_tb 2035 = some (.code (pg_mn 26) (pg_by 26) (pg_ml 26) (pg_rt 26)) := by rfl
set_option maxRecDepth 1000000 in
theorem pg_w27 : pg_tb 2039 = some (.code (pg_mn 27) (pg_by 27) (pg_ml 27) (pg_rt 27)) := by rfl
set_option maxRecDepth 1000000 in
theorem pg_w28 : pg_tb 2043 = some (.code (pg_mn 28) (pg_by 28) (pg_ml 28) (pg_rt 28)) := by rfl
set_option maxRecDepth 1000000 in
theorem pg_w29 : pg_tb 2083 = some (.code (pg_mn 29) (pg_by 29) (pg_ml 29) (pg_rt 29)) := by rfl
set_option maxRecDepth 1000000 in
theorem pg_w30 : pg_tb 2093 = some (.code (pg_mn 30) (pg_by 30) (pg_ml 30) (pg_rt 30)) := by rfl
set_option maxRecDepth 1000000 in
theorem pg_w31 : pg_tb 2106 = some (.code (pg_mn 31) (pg_by 31) (pg_ml 31) (pg_rt 31)) := by rfl
set_option maxRecDepth 1000000 in
theorem pg_w32 : pg_tb 2113 = some (.code (pg_mn 32) (pg_by 32) (pg_ml 32) (pg_rt 32)) := by rfl
set_option maxRecDepth 1000000 in
theorem pg_w33 : pg_tb 2121 = some (.code (pg_mn 33) (pg_by 33) (pg_ml 33) (pg_rt 33)) := by rfl
set_option maxRecDepth 1000000 in
theorem pg_w34 : pg_tb 2129 = some (.code (pg_mn 34) (pg_by 34) (pg_ml 34) (pg_rt 34)) := by rfl
set_option maxRecDepth 1000000 in
theorem pg_w35 : pg_tb 2138 = some (.code (pg_mn 35) (pg_by 35) (pg_ml 35) (pg_rt 35)) := by rfl
set_option maxRecDepth 1000000 in
theorem pg_w36 : pg_tb 2146 = some (.code (pg_mn 36) (pg_by 36) (pg_ml 36) (pg_rt 36)) := by rfl
set_option maxRecDepth 1000000 in
theorem pg_w37 : pg_tb 2154 = some (.code (pg_mn 37) (pg_by 37) (pg_ml 37) (pg_rt 37)) := by rfl
set_option maxRecDepth 1000000 in
theorem pg_w38 : pg_tb 2159 = some (.code (pg_mn 38) (pg_by 38) (pg_ml 38) (pg_rt 38)) := by rfl
set_option maxRecDepth 1000000 in
theorem pg_w39 : pg_tb 629 = some (.code (pg_mn 39) (pg_by 39) (pg_ml 39) (pg_rt 39)) := by rfl
set_option maxRecDepth 1000000 in
theorem pg_w40 : pg_tb 1431 = some (.code (pg_mn 40) (pg_by 40) (pg_ml 40) (pg_rt 40)) := by rfl
set_option maxRecDepth 1000000 in
theorem pg_w41 : pg_tb 1435 = some (.code (pg_mn 41) (pg_by 41) (pg_ml 41) (pg_rt 41)) := by rfl
set_option maxRecDepth 1000000 in
theorem pg_w42 : pg_tb 1474 = some (.code (pg_mn 42) (pg_by 42) (pg_ml 42) (pg_rt 42)) := by rfl
set_option maxRecDepth 1000000 in
theorem pg_w43 : pg_tb 1479 = some (.code (pg_mn 43) (pg_by 43) (pg_ml 43) (pg_rt 43)) := by rfl
set_option maxRecDepth 1000000 in
theorem pg_w44 : pg_tb 1506 = some (.code (pg_mn 44) (pg_by 44) (pg_ml 44) (pg_rt 44)) := by rfl
set_option maxRecDepth 1000000 in
theorem pg_w45 : pg_tb 1514 = some (.code (pg_mn 45) (pg_by 45) (pg_ml 45) (pg_rt 45)) := by rfl
set_option maxRecDepth 1000000 in
theorem pg_w46 : pg_tb 1532 = some (.code (pg_mn 46) (pg_by 46) (pg_ml 46) (pg_rt 46)) := by rfl
set_option maxRecDepth 1000000 in
theorem pg_w47 : pg_tb 1543 = some (.code (pg_mn 47) (pg_by 47) (pg_ml 47) (pg_rt 47)) := by rfl
set_option maxRecDepth 1000000 in
theorem pg_w48 : pg_tb 1549 = some (.code (pg_mn 48) (pg_by 48) (pg_ml 48) (pg_rt 48)) := by rfl
set_option maxRecDepth 1000000 in
theorem pg_w49 : pg_tb 542 = some (.code (pg_mn 49) (pg_by 49) (pg_ml 49) (pg_rt 49)) := by rfl
set_option maxRecDepth 1000000 in
theorem pg_w50 : pg_tb 1011 = some (.code (pg_mn 50) (pg_by 50) (pg_ml 50) (pg_rt 50)) := by rfl
set_option maxRecDepth 1000000 in
theorem pg_w51 : pg_tb 1015 = some (.code (pg_mn 51) (pg_by 51) (pg_ml 51) (pg_rt 51)) := by rfl
set_option maxRecDepth 1000000 in
theorem pg_w52 : pg_tb 1039 = some (.code (pg_mn 52) (pg_by 52) (pg_ml 52) (pg_rt 52)) := by rfl
set_option maxRecDepth 1000000 in
theorem pg_w53 : pg_tb 1338 = some (.code (pg_mn 53) (pg_by 53) (pg_ml 53) (pg_rt 53)) := by rfl
set_option maxRecDepth 1000000 in
theorem pg_w54 : pg_tb 1349 = some (.code (pg_mn 54) (pg_by 54) (pg_ml 54) (pg_rt 54)) := by rfl
set_option maxRecDepth 1000000 in
theorem pg_w55 : pg_tb 1354 = some (.code (pg_mn 55) (pg_by 55) (pg_ml 55) (pg_rt 55)) := by rfl
set_option maxRecDepth 1000000 in
theorem pg_w56 : pg_tb 1358 = some (.code (pg_mn 56) (pg_by 56) (pg_ml 56) (pg_rt 56)) := by rfl
set_option maxRecDepth 1000000 in
theorem pg_w57 : pg_tb 1365 = some (.code (pg_mn 57) (pg_by 57) (pg_ml 57) (pg_rt 57)) := by rfl
set_option maxRecDepth 1000000 in
theorem pg_w58 : pg_tb 1369 = some (.code (pg_mn 58) (pg_by 58) (pg_ml 58) (pg_rt 58)) := by rfl
set_option maxRecDepth 1000000 in
theorem pg_w59 : pg_tb 1375 = some (.code (pg_mn 59) (pg_by 59) (pg_ml 59) (pg_rt 59)) := by rfl
set_option maxRecDepth 1000000 in
theorem pg_w60 : pg_tb 1379 = some (.code (pg_mn 60) (pg_by 60) (pg_ml 60) (pg_rt 60)) := by rfl
set_option maxRecDepth 1000000 in
theorem pg_w61 : pg_tb 1383 = some (.code (pg_mn 61) (pg_by 61) (pg_ml 61) (pg_rt 61)) := by rfl
set_option maxRecDepth 1000000 in
theorem pg_w62 : pg_tb 1394 = some (.code (pg_mn 62) (pg_by 62) (pg_ml 62) (pg_rt 62)) := by rfl
set_option maxRecDepth 1000000 in
theorem pg_w63 : pg_tb 1398 = some (.code (pg_mn 63) (pg_by 63) (pg_ml 63) (pg_rt 63)) := by rfl
set_option maxRecDepth 1000000 in
theorem pg_w64 : pg_tb 1402 = some (.code (pg_mn 64) (pg_by 64) (pg_ml 64) (pg_rt 64)) := by rfl
set_option maxRecDepth 1000000 in
theorem pg_w65 : pg_tb 1406 = some (.code (pg_mn 65) (pg_by 65) (pg_ml 65) (pg_rt 65)) := by rfl
set_option maxRecDepth 1000000 in
theorem pg_w66 : pg_tb 1418 = some (.code (pg_mn 66) (pg_by 66) (pg_ml 66) (pg_rt 66)) := by rfl
set_option maxRecDepth 1000000 in
theorem pg_w67 : pg_tb 1422 = some (.code (pg_mn 67) (pg_by 67) (pg_ml 67) (pg_rt 67)) := by rfl
set_option maxRecDepth 1000000 in
theorem pg_w68 : pg_tb 1426 = some (.code (pg_mn 68) (pg_by 68) (pg_ml 68) (pg_rt 68)) := by rfl
set_option maxRecDepth 1000000 in
theorem pg_w69 : pg_tb 1489 = some (.code (pg_mn 69) (pg_by 69) (pg_ml 69) (pg_rt 69)) := by rfl
set_option maxRecDepth 1000000 in
theorem pg_w70 : pg_tb 1493 = some (.code (pg_mn 70) (pg_by 70) (pg_ml 70) (pg_rt 70)) := by rfl
set_option maxRecDepth 1000000 in
theorem pg_w71 : pg_tb 277 = some (.code (pg_mn 71) (pg_by 71) (pg_ml 71) (pg_rt 71)) := by rfl
set_option maxRecDepth 1000000 in
theorem pg_w72 : pg_tb 807 = some (.code (pg_mn 72) (pg_by 72) (pg_ml 72) (pg_rt 72)) := by rfl
set_option maxRecDepth 1000000 in
theorem pg_w73 : pg_tb 811 = some (.code (pg_mn 73) (pg_by 73) (pg_ml 73) (pg_rt 73)) := by rfl
set_option maxRecDepth 1000000 in
theorem pg_w74 : pg_tb 831 = some (.code (pg_mn 74) (pg_by 74) (pg_ml 74) (pg_rt 74)) := by rfl
set_option maxRecDepth 1000000 in
theorem pg_w75 : pg_tb 835 = some (.code (pg_mn 75) (pg_by 75) (pg_ml 75) (pg_rt 75)) := by rfl
set_option maxRecDepth 1000000 in
theorem pg_w76 : pg_tb 839 = some (.code (pg_mn 76) (pg_by 76) (pg_ml 76) (pg_rt 76)) := by rfl
set_option maxRecDepth 1000000 in
theorem pg_w77 : pg_tb 843 = some (.code (pg_mn 77) (pg_by 77) (pg_ml 77) (pg_rt 77)) := by rfl
set_option maxRecDepth 1000000 in
theorem pg_w78 : pg_tb 874 = some (.code (pg_mn 78) (pg_by 78) (pg_ml 78) (pg_rt 78)) := by rfl
set_option maxRecDepth 1000000 in
theorem pg_w79 : pg_tb 894 = some (.code (pg_mn 79) (pg_by 79) (pg_ml 79) (pg_rt 79)) := by rfl
set_option maxRecDepth 1000000 in
theorem pg_w80 : pg_tb 908 = some (.code (pg_mn 80) (pg_by 80) (pg_ml 80) (pg_rt 80)) := by rfl
set_option maxRecDepth 1000000 in
theorem pg_w81 : pg_tb 912 = some (.code (pg_mn 81) (pg_by 81) (pg_ml 81) (pg_rt 81)) := by rfl
set_option maxRecDepth 1000000 in
theorem pg_w82 : pg_tb 916 = some (.code (pg_mn 82) (pg_by 82) (pg_ml 82) (pg_rt 82)) := by rfl
set_option maxRecDepth 1000000 in
theorem pg_w83 : pg_tb 924 = some (.code (pg_mn 83) (pg_by 83) (pg_ml 83) (pg_rt 83)) := by rfl
set_option maxRecDepth 1000000 in
theorem pg_w84 : pg_tb 930 = some (.code (pg_mn 84) (pg_by 84) (pg_ml 84) (pg_rt 84)) := by rfl
set_option maxRecDepth 1000000 in
theorem pg_w85 : pg_tb 934 = some (.code (pg_mn 85) (pg_by 85) (pg_ml 85) (pg_rt 85)) := by rfl
set_option maxRecDepth 1000000 in
theorem pg_w86 : pg_tb 944 = some (.code (pg_mn 86) (pg_by 86) (pg_ml 86) (pg_rt 86)) := by rfl
set_option maxRecDepth 1000000 in
theorem pg_w87 : pg_tb 953 = some (.code (pg_mn 87) (pg_by 87) (pg_ml 87) (pg_rt 87)) := by rfl
set_option maxRecDepth 1000000 in
theorem pg_w88 : pg_tb 960 = some (.code (pg_mn 88) (pg_by 88) (pg_ml 88) (pg_rt 88)) := by rfl
set_option maxRecDepth 1000000 in
theorem pg_w89 : pg_tb 964 = some (.code (pg_mn 89) (pg_by 89) (pg_ml 89) (pg_rt 89)) := by rfl
set_option maxRecDepth 1000000 in
theorem pg_w90 : pg_tb 968 = some (.code (pg_mn 90) (pg_by 90) (pg_ml 90) (pg_rt 90)) := by rfl
set_option maxRecDepth 1000000 in
theorem pg_w91 : pg_tb 972 = some (.code (pg_mn 91) (pg_by 91) (pg_ml 91) (pg_rt 91)) := by rfl
set_option maxRecDepth 1000000 in
theorem pg_w92 : pg_tb 976 = some (.code (pg_mn 92) (pg_by 92) (pg_ml 92) (pg_rt 92)) := by rfl
set_option maxRecDepth 1000000 in
theorem pg_w93 : pg_tb 980 = some (.code (pg_mn 93) (pg_by 93) (pg_ml 93) (pg_rt 93)) := by rfl
set_option maxRecDepth 1000000 in
theorem pg_w94 : pg_tb 984 = some (.code (pg_mn 94) (pg_by 94) (pg_ml 94) (pg_rt 94)) := by rfl
set_option maxRecDepth 1000000 in
theorem pg_w95 : pg_tb 1002 = some (.code (pg_mn 95) (pg_by 95) (pg_ml 95) (pg_rt 95)) := by rfl
set_option maxRecDepth 1000000 in
theorem pg_w96 : pg_tb 1006 = some (.code (pg_mn 96) (pg_by 96) (pg_ml 96) (pg_rt 96)) := by rfl
set_option maxRecDepth 1000000 in
theorem pg_w97 : pg_tb 1332 = some (.code (pg_mn 97) (pg_by 97) (pg_ml 97) (pg_rt 97)) := by rfl
set_option maxRecDepth 1000000 in
theorem pg_w98 : pg_tb 1343 = some (.code (pg_mn 98) (pg_by 98) (pg_ml 98) (pg_rt 98)) := by rfl
set_option maxRecDepth 1000000 in
theorem pg_w99 : pg_tb 2163 = some (.code (pg_mn 99) (pg_by 99) (pg_ml 99) (pg_rt 99)) := by rfl
set_option maxRecDepth 1000000 in
theorem pg_w100 : pg_tb 692 = some (.code (pg_mn 100) (pg_by 100) (pg_ml 100) (pg_rt 100)) := by rfl
set_option maxRecDepth 1000000 in
theorem pg_w101 : pg_tb 1725 = some (.code (pg_mn 101) (pg_by 101) (pg_ml 101) (pg_rt 101)) := by rfl
set_option maxRecDepth 1000000 in
theorem pg_w102 : pg_tb 1733 = some (.code (pg_mn 102) (pg_by 102) (pg_ml 102) (pg_rt 102)) := by rfl
set_option maxRecDepth 1000000 in
theorem pg_w103 : pg_tb 1737 = some (.code (pg_mn 103) (pg_by 103) (pg_ml 103) (pg_rt 103)) := by rfl
set_option maxRecDepth 1000000 in
theorem pg_w104 : pg_tb 1746 = some (.code (pg_mn 104) (pg_by 104) (pg_ml 104) (pg_rt 104)) := by rfl
set_option maxRecDepth 1000000 in
theorem pg_w105 : pg_tb 1756 = some (.code (pg_mn 105) (pg_by 105) (pg_ml 105) (pg_rt 105)) := by rfl
set_option maxRecDepth 1000000 in
theorem pg_w106 : pg_tb 1766 = some (.code (pg_mn 106) (pg_by 106) (pg_ml 106) (pg_rt 106)) := by rfl
set_option maxRecDepth 1000000 in
theorem pg_w107 : pg_tb 1782 = some (.code (pg_mn 107) (pg_by 107) (pg_ml 107) (pg_rt 107)) := by rfl
set_option maxRecDepth 1000000 in
theorem pg_w108 : pg_tb 1788 = some (.code (pg_mn 108) (pg_by 108) (pg_ml 108) (pg_rt 108)) := by rfl
set_option maxRecDepth 1000000 in
theorem pg_w109 : pg_tb 1794 = some (.code (pg_mn 109) (pg_by 109) (pg_ml 109) (pg_rt 109)) := by rfl
set_option maxRecDepth 1000000 in
theorem pg_w110 : pg_tb 1806 = some (.code (pg_mn 110) (pg_by 110) (pg_ml 110) (pg_rt 110)) := by rfl
set_option maxRecDepth 1000000 in
theorem pg_w111 : pg_tb 1815 = some (.code (pg_mn 111) (pg_by 111) (pg_ml 111) (pg_rt 111)) := by rfl
set_option maxRecDepth 1000000 in
theorem pg_w112 : pg_tb 164 = some (.code (pg_mn 112) (pg_by 112) (pg_ml 112) (pg_rt 112)) := by rfl
set_option maxRecDepth 1000000 in
theorem pg_w113 : pg_tb 369 = some (.code (pg_mn 113) (pg_by 113) (pg_ml 113) (pg_rt 113)) := by rfl
set_option maxRecDepth 1000000 in
theorem pg_w114 : pg_tb 373 = some (.code (pg_mn 114) (pg_by 114) (pg_ml 114) (pg_rt 114)) := by rfl
set_option maxRecDepth 1000000 in
theorem pg_w115 : pg_tb 425 = some (.code (pg_mn 115) (pg_by 115) (pg_ml 115) (pg_rt 115)) := by rfl
set_option maxRecDepth 1000000 in
theorem pg_w116 : pg_tb 827 = some (.code (pg_mn 116) (pg_by 116) (pg_ml 116) (pg_rt 116)) := by rfl
set_option maxRecDepth 1000000 in
theorem pg_w117 : pg_tb 886 = some (.code (pg_mn 117) (pg_by 117) (pg_ml 117) (pg_rt 117)) := by rfl
set_option maxRecDepth 1000000 in
theorem pg_w118 : pg_tb 948 = some (.code (pg_mn 118) (pg_by 118) (pg_ml 118) (pg_rt 118)) := by rfl
set_option maxRecDepth 1000000 in
theorem pg_w119 : pg_tb 1566 = some (.code (pg_mn 119) (pg_by 119) (pg_ml 119) (pg_rt 119)) := by rfl
set_option maxRecDepth 1000000 in
theorem pg_w120 : pg_tb 1657 = some (.code (pg_mn 120) (pg_by 120) (pg_ml 120) (pg_rt 120)) := by rfl
set_option maxRecDepth 1000000 in
theorem pg_w121 : pg_tb 156 = some (.code (pg_mn 121) (pg_by 121) (pg_ml 121) (pg_rt 121)) := by rfl
set_option maxRecDepth 1000000 in
theorem pg_w122 : pg_tb 815 = some (.code (pg_mn 122) (pg_by 122) (pg_ml 122) (pg_rt 122)) := by rfl
set_option maxRecDepth 1000000 in
theorem pg_w123 : pg_tb 819 = some (.code (pg_mn 123) (pg_by 123) (pg_ml 123) (pg_rt 123)) := by rfl
set_option maxRecDepth 1000000 in
theorem pg_w124 : pg_tb 823 = some (.code (pg_mn 124) (pg_by 124) (pg_ml 124) (pg_rt 124)) := by rfl
set_option maxRecDepth 1000000 in
theorem pg_w125 : pg_tb 75 = some (.code (pg_mn 125) (pg_by 125) (pg_ml 125) (pg_rt 125)) := by rfl
set_option maxRecDepth 1000000 in
theorem pg_w126 : pg_tb 847 = some (.code (pg_mn 126) (pg_by 126) (pg_ml 126) (pg_rt 126)) := by rfl
set_option maxRecDepth 1000000 in
theorem pg_w127 : pg_tb 851 = some (.code (pg_mn 127) (pg_by 127) (pg_ml 127) (pg_rt 127)) := by rfl
set_option maxRecDepth 1000000 in
theorem pg_w128 : pg_tb 855 = some (.code (pg_mn 128) (pg_by 128) (pg_ml 128) (pg_rt 128)) := by rfl
set_option maxRecDepth 1000000 in
theorem pg_w129 : pg_tb 859 = some (.code (pg_mn 129) (pg_by 129) (pg_ml 129) (pg_rt 129)) := by rfl
set_option maxRecDepth 1000000 in
theorem pg_w130 : pg_tb 866 = some (.code (pg_mn 130) (pg_by 130) (pg_ml 130) (pg_rt 130)) := by rfl
set_option maxRecDepth 1000000 in
theorem pg_w131 : pg_tb 870 = some (.code (pg_mn 131) (pg_by 131) (pg_ml 131) (pg_rt 131)) := by rfl
set_option maxRecDepth 1000000 in
theorem pg_w132 : pg_tb 878 = some (.code (pg_mn 132) (pg_by 132) (pg_ml 132) (pg_rt 132)) := by rfl
set_option maxRecDepth 1000000 in
theorem pg_w133 : pg_tb 882 = some (.code (pg_mn 133) (pg_by 133) (pg_ml 133) (pg_rt 133)) := by rfl
set_option maxRecDepth 1000000 in
theorem pg_w134 : pg_tb 898 = some (.code (pg_mn 134) (pg_by 134) (pg_ml 134) (pg_rt 134)) := by rfl
set_option maxRecDepth 1000000 in
theorem pg_w135 : pg_tb 904 = some (.code (pg_mn 135) (pg_by 135) (pg_ml 135) (pg_rt 135)) := by rfl
set_option maxRecDepth 1000000 in
theorem pg_w136 : pg_tb 920 = some (.code (pg_mn 136) (pg_by 136) (pg_ml 136) (pg_rt 136)) := by rfl
set_option maxRecDepth 1000000 in
theorem pg_w137 : pg_tb 938 = some (.code (pg_mn 137) (pg_by 137) (pg_ml 137) (pg_rt 137)) := by rfl
set_option maxRecDepth 1000000 in
theorem pg_w138 : pg_tb 988 = some (.code (pg_mn 138) (pg_by 138) (pg_ml 138) (pg_rt 138)) := by rfl
set_option maxRecDepth 1000000 in
theorem pg_w139 : pg_tb 996 = some (.code (pg_mn 139) (pg_by 139) (pg_ml 139) (pg_rt 139)) := by rfl
set_option maxRecDepth 1000000 in
theorem pg_w140 : pg_tb 1498 = some (.code (pg_mn 140) (pg_by 140) (pg_ml 140) (pg_rt 140)) := by rfl
set_option maxRecDepth 1000000 in
theorem pg_w141 : pg_tb 1554 = some (.code (pg_mn 141) (pg_by 141) (pg_ml 141) (pg_rt 141)) := by rfl
set_option maxRecDepth 1000000 in
theorem pg_w142 : pg_tb 1606 = some (.code (pg_mn 142) (pg_by 142) (pg_ml 142) (pg_rt 142)) := by rfl
set_option maxRecDepth 1000000 in
theorem pg_w143 : pg_tb 1876 = some (.code (pg_mn 143) (pg_by 143) (pg_ml 143) (pg_rt 143)) := by rfl
set_option maxRecDepth 1000000 in
theorem pg_w144 : pg_tb 1880 = some (.code (pg_mn 144) (pg_by 144) (pg_ml 144) (pg_rt 144)) := by rfl
set_option maxRecDepth 1000000 in
theorem pg_w145 : pg_tb 1884 = some (.code (pg_mn 145) (pg_by 145) (pg_ml 145) (pg_rt 145)) := by rfl
set_option maxRecDepth 1000000 in
theorem pg_w146 : pg_tb 1891 = some (.code (pg_mn 146) (pg_by 146) (pg_ml 146) (pg_rt 146)) := by rfl
set_option maxRecDepth 1000000 in
theorem pg_w147 : pg_tb 1895 = some (.code (pg_mn 147) (pg_by 147) (pg_ml 147) (pg_rt 147)) := by rfl
set_option maxRecDepth 1000000 in
theorem pg_w148 : pg_tb 1900 = some (.code (pg_mn 148) (pg_by 148) (pg_ml 148) (pg_rt 148)) := by rfl
set_option maxRecDepth 1000000 in
theorem pg_w149 : pg_tb 1906 = some (.code (pg_mn 149) (pg_by 149) (pg_ml 149) (pg_rt 149)) := by rfl
set_option maxRecDepth 1000000 in
theorem pg_w150 : pg_tb 1918 = some (.code (pg_mn 150) (pg_by 150) (pg_ml 150) (pg_rt 150)) := by rfl
set_option maxRecDepth 1000000 in
theorem pg_w151 : pg_tb 1922 = some (.code (pg_mn 151) (pg_by 151) (pg_ml 151) (pg_rt 151)) := by rfl
set_option maxRecDepth 1000000 in
theorem pg_w152 : pg_tb 1928 = some (.code (pg_mn 152) (pg_by 152) (pg_ml 152) (pg_rt 152)) := by rfl
set_option maxRecDepth 1000000 in
theorem pg_w153 : pg_tb 1934 = some (.code (pg_mn 153) (pg_by 153) (pg_ml 153) (pg_rt 153)) := by rfl
set_option maxRecDepth 1000000 in
theorem pg_w154 : pg_tb 1940 = some (.code (pg_mn 154) (pg_by 154) (pg_ml 154) (pg_rt 154)) := by rfl
set_option maxRecDepth 1000000 in
theorem pg_w155 : pg_tb 1949 = some (.code (pg_mn 155) (pg_by 155) (pg_ml 155) (pg_rt 155)) := by rfl
set_option maxRecDepth 1000000 in
theorem pg_w156 : pg_tb 1954 = some (.code (pg_mn 156) (pg_by 156) (pg_ml 156) (pg_rt 156)) := by rfl
set_option maxRecDepth 1000000 in
theorem pg_w157 : pg_tb 1959 = some (.code (pg_mn 157) (pg_by 157) (pg_ml 157) (pg_rt 157)) := by rfl
set_option maxRecDepth 1000000 in
theorem pg_w158 : pg_tb 1963 = some (.code (pg_mn 158) (pg_by 158) (pg_ml 158) (pg_rt 158)) := by rfl
set_option maxRecDepth 1000000 in
theorem pg_w159 : pg_tb 286 = some (.code (pg_mn 159) (pg_by 159) (pg_ml 159) (pg_rt 159)) := by rfl
set_option maxRecDepth 1000000 in
theorem pg_w160 : pg_tb 509 = some (.code (pg_mn 160) (pg_by 160) (pg_ml 160) (pg_rt 160)) := by rfl
set_option maxRecDepth 1000000 in
theorem pg_w161 : pg_tb 1019 = some (.code (pg_mn 161) (pg_by 161) (pg_ml 161) (pg_rt 161)) := by rfl
set_option maxRecDepth 1000000 in
theorem pg_w162 : pg_tb 1026 = some (.code (pg_mn 162) (pg_by 162) (pg_ml 162) (pg_rt 162)) := by rfl
set_option maxRecDepth 1000000 in
theorem pg_w163 : pg_tb 1031 = some (.code (pg_mn 163) (pg_by 163) (pg_ml 163) (pg_rt 163)) := by rfl
set_option maxRecDepth 1000000 in
theorem pg_w164 : pg_tb 1035 = some (.code (pg_mn 164) (pg_by 164) (pg_ml 164) (pg_rt 164)) := by rfl
set_option maxRecDepth 1000000 in
theorem pg_w165 : pg_tb 1413 = some (.code (pg_mn 165) (pg_by 165) (pg_ml 165) (pg_rt 165)) := by rfl
set_option maxRecDepth 1000000 in
theorem pg_w166 : pg_tb 43 = some (.code (pg_mn 166) (pg_by 166) (pg_ml 166) (pg_rt 166)) := by rfl
set_option maxRecDepth 1000000 in
theorem pg_w167 : pg_tb 890 = some (.code (pg_mn 167) (pg_by 167) (pg_ml 167) (pg_rt 167)) := by rfl
set_option maxRecDepth 1000000 in
theorem pg_w168 : pg_tb 1440 = some (.code (pg_mn 168) (pg_by 168) (pg_ml 168) (pg_rt 168)) := by rfl
set_option maxRecDepth 1000000 in
theorem pg_w169 : pg_tb 1446 = some (.code (pg_mn 169) (pg_by 169) (pg_ml 169) (pg_rt 169)) := by rfl
set_option maxRecDepth 1000000 in
theorem pg_w170 : pg_tb 1450 = some (.code (pg_mn 170) (pg_by 170) (pg_ml 170) (pg_rt 170)) := by rfl
set_option maxRecDepth 1000000 in
theorem pg_w171 : pg_tb 1455 = some (.code (pg_mn 171) (pg_by 171) (pg_ml 171) (pg_rt 171)) := by rfl
set_option maxRecDepth 1000000 in
theorem pg_w172 : pg_tb 1484 = some (.code (pg_mn 172) (pg_by 172) (pg_ml 172) (pg_rt 172)) := by rfl
set_option maxRecDepth 1000000 in
theorem pg_w173 : pg_tb 1502 = some (.code (pg_mn 173) (pg_by 173) (pg_ml 173) (pg_rt 173)) := by rfl
set_option maxRecDepth 1000000 in
theorem pg_w174 : pg_tb 1562 = some (.code (pg_mn 174) (pg_by 174) (pg_ml 174) (pg_rt 174)) := by rfl
set_option maxRecDepth 1000000 in
theorem pg_w175 : pg_tb 1705 = some (.code (pg_mn 175) (pg_by 175) (pg_ml 175) (pg_rt 175)) := by rfl
set_option maxRecDepth 1000000 in
theorem pg_w176 : pg_tb 1711 = some (.code (pg_mn 176) (pg_by 176) (pg_ml 176) (pg_rt 176)) := by rfl
set_option maxRecDepth 1000000 in
theorem pg_w177 : pg_tb 1741 = some (.code (pg_mn 177) (pg_by 177) (pg_ml 177) (pg_rt 177)) := by rfl
set_option maxRecDepth 1000000 in
theorem pg_w178 : pg_tb 1751 = some (.code (pg_mn 178) (pg_by 178) (pg_ml 178) (pg_rt 178)) := by rfl
set_option maxRecDepth 1000000 in
theorem pg_w179 : pg_tb 1771 = some (.code (pg_mn 179) (pg_by 179) (pg_ml 179) (pg_rt 179)) := by rfl
set_option maxRecDepth 1000000 in
theorem pg_w180 : pg_tb 1778 = some (.code (pg_mn 180) (pg_by 180) (pg_ml 180) (pg_rt 180)) := by rfl
set_option maxRecDepth 1000000 in
theorem pg_w181 : pg_tb 2068 = some (.code (pg_mn 181) (pg_by 181) (pg_ml 181) (pg_rt 181)) := by rfl
set_option maxRecDepth 1000000 in
theorem pg_w182 : pg_tb 655 = some (.code (pg_mn 182) (pg_by 182) (pg_ml 182) (pg_rt 182)) := by rfl
set_option maxRecDepth 1000000 in
theorem pg_w183 : pg_tb 1575 = some (.code (pg_mn 183) (pg_by 183) (pg_ml 183) (pg_rt 183)) := by rfl
set_option maxRecDepth 1000000 in
theorem pg_w184 : pg_tb 1579 = some (.code (pg_mn 184) (pg_by 184) (pg_ml 184) (pg_rt 184)) := by rfl
set_option maxRecDepth 1000000 in
theorem pg_w185 : pg_tb 1586 = some (.code (pg_mn 185) (pg_by 185) (pg_ml 185) (pg_rt 185)) := by rfl
set_option maxRecDepth 1000000 in
theorem pg_w186 : pg_tb 1593 = some (.code (pg_mn 186) (pg_by 186) (pg_ml 186) (pg_rt 186)) := by rfl
set_option maxRecDepth 1000000 in
theorem pg_w187 : pg_tb 1601 = some (.code (pg_mn 187) (pg_by 187) (pg_ml 187) (pg_rt 187)) := by rfl
set_option maxRecDepth 1000000 in
theorem pg_w188 : pg_tb 1609 = some (.code (pg_mn 188) (pg_by 188) (pg_ml 188) (pg_rt 188)) := by rfl
set_option maxRecDepth 1000000 in
theorem pg_w189 : pg_tb 1615 = some (.code (pg_mn 189) (pg_by 189) (pg_ml 189) (pg_rt 189)) := by rfl
set_option maxRecDepth 1000000 in
theorem pg_w190 : pg_tb 1621 = some (.code (pg_mn 190) (pg_by 190) (pg_ml 190) (pg_rt 190)) := by rfl
set_option maxRecDepth 1000000 in
theorem pg_w191 : pg_tb 1626 = some (.code (pg_mn 191) (pg_by 191) (pg_ml 191) (pg_rt 191)) := by rfl
set_option maxRecDepth 1000000 in
theorem pg_w192 : pg_tb 1634 = some (.code (pg_mn 192) (pg_by 192) (pg_ml 192) (pg_rt 192)) := by rfl
set_option maxRecDepth 1000000 in
theorem pg_w193 : pg_tb 1638 = some (.code (pg_mn 193) (pg_by 193) (pg_ml 193) (pg_rt 193)) := by rfl
set_option maxRecDepth 1000000 in
theorem pg_w194 : pg_tb 1643 = some (.code (pg_mn 194) (pg_by 194) (pg_ml 194) (pg_rt 194)) := by rfl
set_option maxRecDepth 1000000 in
theorem pg_w195 : pg_tb 1649 = some (.code (pg_mn 195) (pg_by 195) (pg_ml 195) (pg_rt 195)) := by rfl
set_option maxRecDepth 1000000 in
theorem pg_w196 : pg_tb 1653 = some (.code (pg_mn 196) (pg_by 196) (pg_ml 196) (pg_rt 196)) := by rfl
set_option maxRecDepth 1000000 in
theorem pg_w197 : pg_tb 1663 = some (.code (pg_mn 197) (pg_by 197) (pg_ml 197) (pg_rt 197)) := by rfl
set_option maxRecDepth 1000000 in
theorem pg_w198 : pg_tb 1684 = some (.code (pg_mn 198) (pg_by 198) (pg_ml 198) (pg_rt 198)) := by rfl
set_option maxRecDepth 1000000 in
theorem pg_w199 : pg_tb 1687 = some (.code (pg_mn 199) (pg_by 199) (pg_ml 199) (pg_rt 199)) := by rfl
set_option maxRecDepth 1000000 in
theorem pg_w200 : pg_tb 1697 = some (.code (pg_mn 200) (pg_by 200) (pg_ml 200) (pg_rt 200)) := by rfl
set_option maxRecDepth 1000000 in
theorem pg_w201 : pg_tb 1701 = some (.code (pg_mn 201) (pg_by 201) (pg_ml 201) (pg_rt 201)) := by rfl
set_option maxRecDepth 1000000 in
theorem pg_w202 : pg_tb 1716 = some (.code (pg_mn 202) (pg_by 202) (pg_ml 202) (pg_rt 202)) := by rfl
set_option maxRecDepth 1000000 in
theorem pg_w203 : pg_tb 2013 = some (.code (pg_mn 203) (pg_by 203) (pg_ml 203) (pg_rt 203)) := by rfl
set_option maxRecDepth 1000000 in
theorem pg_w204 : pg_tb 2018 = some (.code (pg_mn 204) (pg_by 204) (pg_ml 204) (pg_rt 204)) := by rfl
set_option maxRecDepth 1000000 in
theorem pg_w205 : pg_tb 2023 = some (.code (pg_mn 205) (pg_by 205) (pg_ml 205) (pg_rt 205)) := by rfl
set_option maxRecDepth 1000000 in
theorem pg_w206 : pg_tb 2063 = some (.code (pg_mn 206) (pg_by 206) (pg_ml 206) (pg_rt 206)) := by rfl
set_option maxRecDepth 1000000 in
theorem pg_w207 : pg_tb 2072 = some (.code (pg_mn 207) (pg_by 207) (pg_ml 207) (pg_rt 207)) := by rfl
set_option maxRecDepth 1000000 in
theorem pg_w208 : pg_tb 2097 = some (.code (pg_mn 208) (pg_by 208) (pg_ml 208) (pg_rt 208)) := by rfl
set_option maxRecDepth 1000000 in
theorem pg_w209 : pg_tb 2169 = some (.code (pg_mn 209) (pg_by 209) (pg_ml 209) (pg_rt 209)) := by rfl
set_option maxRecDepth 1000000 in
theorem pg_w210 : pg_tb 2568 = some (.code (pg_mn 210) (pg_by 210) (pg_ml 210) (pg_rt 210)) := by rfl
set_option maxRecDepth 1000000 in
theorem pg_w211 : pg_tb 2572 = some (.code (pg_mn 211) (pg_by 211) (pg_ml 211) (pg_rt 211)) := by rfl
set_option maxRecDepth 1000000 in
theorem pg_w212 : pg_tb 2576 = some (.code (pg_mn 212) (pg_by 212) (pg_ml 212) (pg_rt 212)) := by rfl
set_option maxRecDepth 1000000 in
theorem pg_w213 : pg_tb 2580 = some (.code (pg_mn 213) (pg_by 213) (pg_ml 213) (pg_rt 213)) := by rfl
set_option maxRecDepth 1000000 in
theorem pg_w214 : pg_tb 2584 = some (.code (pg_mn 214) (pg_by 214) (pg_ml 214) (pg_rt 214)) := by rfl
set_option maxRecDepth 1000000 in
theorem pg_w215 : pg_tb 2588 = some (.code (pg_mn 215) (pg_by 215) (pg_ml 215) (pg_rt 215)) := by rfl
set_option maxRecDepth 1000000 in
theorem pg_w216 : pg_tb 2593 = some (.code (pg_mn 216) (pg_by 216) (pg_ml 216) (pg_rt 216)) := by rfl
set_option maxRecDepth 1000000 in
theorem pg_w217 : pg_tb 2597 = some (.code (pg_mn 217) (pg_by 217) (pg_ml 217) (pg_rt 217)) := by rfl
set_option maxRecDepth 1000000 in
theorem pg_w218 : pg_tb 2604 = some (.code (pg_mn 218) (pg_by 218) (pg_ml 218) (pg_rt 218)) := by rfl
set_option maxRecDepth 1000000 in
theorem pg_w219 : pg_tb 2607 = some (.code (pg_mn 219) (pg_by 219) (pg_ml 219) (pg_rt 219)) := by rfl
set_option maxRecDepth 1000000 in
theorem pg_w220 : pg_tb 2611 = some (.code (pg_mn 220) (pg_by 220) (pg_ml 220) (pg_rt 220)) := by rfl
set_option maxRecDepth 1000000 in
theorem pg_w221 : pg_tb 2615 = some (.code (pg_mn 221) (pg_by 221) (pg_ml 221) (pg_rt 221)) := by rfl
set_option maxRecDepth 1000000 in
theorem pg_w222 : pg_tb 2619 = some (.code (pg_mn 222) (pg_by 222) (pg_ml 222) (pg_rt 222)) := by rfl
set_option maxRecDepth 1000000 in
theorem pg_w223 : pg_tb 2624 = some (.code (pg_mn 223) (pg_by 223) (pg_ml 223) (pg_rt 223)) := by rfl
set_option maxRecDepth 1000000 in
theorem pg_w224 : pg_tb 2628 = some (.code (pg_mn 224) (pg_by 224) (pg_ml 224) (pg_rt 224)) := by rfl
set_option maxRecDepth 1000000 in
theorem pg_w225 : pg_tb 2632 = some (.code (pg_mn 225) (pg_by 225) (pg_ml 225) (pg_rt 225)) := by rfl
set_option maxRecDepth 1000000 in
theorem pg_w226 : pg_tb 2636 = some (.code (pg_mn 226) (pg_by 226) (pg_ml 226) (pg_rt 226)) := by rfl
set_option maxRecDepth 1000000 in
theorem pg_w227 : pg_tb 2642 = some (.code (pg_mn 227) (pg_by 227) (pg_ml 227) (pg_rt 227)) := by rfl
set_option maxRecDepth 1000000 in
theorem pg_w228 : pg_tb 2645 = some (.code (pg_mn 228) (pg_by 228) (pg_ml 228) (pg_rt 228)) := by rfl
set_option maxRecDepth 1000000 in
theorem pg_w229 : pg_tb 2650 = some (.code (pg_mn 229) (pg_by 229) (pg_ml 229) (pg_rt 229)) := by rfl
set_option maxRecDepth 1000000 in
theorem pg_w230 : pg_tb 2654 = some (.code (pg_mn 230) (pg_by 230) (pg_ml 230) (pg_rt 230)) := by rfl
set_option maxRecDepth 1000000 in
theorem pg_w231 : pg_tb 2660 = some (.code (pg_mn 231) (pg_by 231) (pg_ml 231) (pg_rt 231)) := by rfl
set_option maxRecDepth 1000000 in
theorem pg_w232 : pg_tb 2665 = some (.code (pg_mn 232) (pg_by 232) (pg_ml 232) (pg_rt 232)) := by rfl
set_option maxRecDepth 1000000 in
theorem pg_w233 : pg_tb 2669 = some (.code (pg_mn 233) (pg_by 233) (pg_ml 233) (pg_rt 233)) := by rfl
set_option maxRecDepth 1000000 in
theorem pg_w234 : pg_tb 2673 = some (.code (pg_mn 234) (pg_by 234) (pg_ml 234) (pg_rt 234)) := by rfl
set_option maxRecDepth 1000000 in
theorem pg_w235 : pg_tb 2677 = some (.code (pg_mn 235) (pg_by 235) (pg_ml 235) (pg_rt 235)) := by rfl
set_option maxRecDepth 1000000 in
theorem pg_w236 : pg_tb 2681 = some (.code (pg_mn 236) (pg_by 236) (pg_ml 236) (pg_rt 236)) := by rfl
set_option maxRecDepth 1000000 in
theorem pg_w237 : pg_tb 2687 = some (.code (pg_mn 237) (pg_by 237) (pg_ml 237) (pg_rt 237)) := by rfl
set_option maxRecDepth 1000000 in
theorem pg_w238 : pg_tb 2691 = some (.code (pg_mn 238) (pg_by 238) (pg_ml 238) (pg_rt 238)) := by rfl
set_option maxRecDepth 1000000 in
theorem pg_w239 : pg_tb 2695 = some (.code (pg_mn 239) (pg_by 239) (pg_ml 239) (pg_rt 239)) := by rfl
set_option maxRecDepth 1000000 in
theorem pg_w240 : pg_tb 2699 = some (.code (pg_mn 240) (pg_by 240) (pg_ml 240) (pg_rt 240)) := by rfl
set_option maxRecDepth 1000000 in
theorem pg_w241 : pg_tb 2703 = some (.code (pg_mn 241) (pg_by 241) (pg_ml 241) (pg_rt 241)) := by rfl
set_option maxRecDepth 1000000 in
theorem pg_w242 : pg_tb 2708 = some (.code (pg_mn 242) (pg_by 242) (pg_ml 242) (pg_rt 242)) := by rfl
set_option maxRecDepth 1000000 in
theorem pg_w243 : pg_tb 2712 = some (.code (pg_mn 243) (pg_by 243) (pg_ml 243) (pg_rt 243)) := by rfl
set_option maxRecDepth 1000000 in
theorem pg_w244 : pg_tb 2716 = some (.code (pg_mn 244) (pg_by 244) (pg_ml 244) (pg_rt 244)) := by rfl
set_option maxRecDepth 1000000 in
theorem pg_w245 : pg_tb 2720 = some (.code (pg_mn 245) (pg_by 245) (pg_ml 245) (pg_rt 245)) := by rfl
set_option maxRecDepth 1000000 in
theorem pg_w246 : pg_tb 2723 = some (.code (pg_mn 246) (pg_by 246) (pg_ml 246) (pg_rt 246)) := by rfl
set_option maxRecDepth 1000000 in
theorem pg_w247 : pg_tb 2730 = some (.code (pg_mn 247) (pg_by 247) (pg_ml 247) (pg_rt 247)) := by rfl
set_option maxRecDepth 1000000 in
theorem pg_w248 : pg_tb 2738 = some (.code (pg_mn 248) (pg_by 248) (pg_ml 248) (pg_rt 248)) := by rfl
set_option maxRecDepth 1000000 in
theorem pg_w249 : pg_tb 2742 = some (.code (pg_mn 249) (pg_by 249) (pg_ml 249) (pg_rt 249)) := by rfl
set_option maxRecDepth 1000000 in
theorem pg_w250 : pg_tb 2747 = some (.code (pg_mn 250) (pg_by 250) (pg_ml 250) (pg_rt 250)) := by rfl
set_option maxRecDepth 1000000 in
theorem pg_w251 : pg_tb 2751 = some (.code (pg_mn 251) (pg_by 251) (pg_ml 251) (pg_rt 251)) := by rfl
set_option maxRecDepth 1000000 in
theorem pg_w252 : pg_tb 2755 = some (.code (pg_mn 252) (pg_by 252) (pg_ml 252) (pg_rt 252)) := by rfl
set_option maxRecDepth 1000000 in
theorem pg_w253 : pg_tb 2760 = some (.code (pg_mn 253) (pg_by 253) (pg_ml 253) (pg_rt 253)) := by rfl
set_option maxRecDepth 1000000 in
theorem pg_w254 : pg_tb 2764 = some (.code (pg_mn 254) (pg_by 254) (pg_ml 254) (pg_rt 254)) := by rfl
set_option maxRecDepth 1000000 in
theorem pg_w255 : pg_tb 2768 = some (.code (pg_mn 255) (pg_by 255) (pg_ml 255) (pg_rt 255)) := by rfl
set_option maxRecDepth 1000000 in
theorem pg_w256 : pg_tb 2772 = some (.code (pg_mn 256) (pg_by 256) (pg_ml 256) (pg_rt 256)) := by rfl
set_option maxRecDepth 1000000 in
theorem pg_w257 : pg_tb 2776 = some (.code (pg_mn 257) (pg_by 257) (pg_ml 257) (pg_rt 257)) := by rfl
set_option maxRecDepth 1000000 in
theorem pg_w258 : pg_tb 2780 = some (.code (pg_mn 258) (pg_by 258) (pg_ml 258) (pg_rt 258)) := by rfl
set_option maxRecDepth 1000000 in
theorem pg_w259 : pg_tb 2784 = some (.code (pg_mn 259) (pg_by 259) (pg_ml 259) (pg_rt 259)) := by rfl
set_option maxRecDepth 1000000 in
theorem pg_w260 : pg_tb 2788 = some (.code (pg_mn 260) (pg_by 260) (pg_ml 260) (pg_rt 260)) := by rfl
set_option maxRecDepth 1000000 in
theorem pg_w261 : pg_tb 2792 = some (.code (pg_mn 261) (pg_by 261) (pg_ml 261) (pg_rt 261)) := by rfl
set_option maxRecDepth 1000000 in
theorem pg_w262 : pg_tb 2796 = some (.code (pg_mn 262) (pg_by 262) (pg_ml 262) (pg_rt 262)) := by rfl
set_option maxRecDepth 1000000 in
theorem pg_w263 : pg_tb 2800 = some (.code (pg_mn 263) (pg_by 263) (pg_ml 263) (pg_rt 263)) := by rfl
set_option maxRecDepth 1000000 in
theorem pg_w264 : pg_tb 2804 = some (.code (pg_mn 264) (pg_by 264) (pg_ml 264) (pg_rt 264)) := by rfl
set_option maxRecDepth 1000000 in
theorem pg_w265 : pg_tb 2808 = some (.code (pg_mn 265) (pg_by 265) (pg_ml 265) (pg_rt 265)) := by rfl
set_option maxRecDepth 1000000 in
theorem pg_w266 : pg_tb 2812 = some (.code (pg_mn 266) (pg_by 266) (pg_ml 266) (pg_rt 266)) := by rfl
set_option maxRecDepth 1000000 in
theorem pg_w267 : pg_tb 2816 = some (.code (pg_mn 267) (pg_by 267) (pg_ml 267) (pg_rt 267)) := by rfl
set_option maxRecDepth 1000000 in
theorem pg_w268 : pg_tb 2820 = some (.code (pg_mn 268) (pg_by 268) (pg_ml 268) (pg_rt 268)) := by rfl
set_option maxRecDepth 1000000 in
theorem pg_w269 : pg_tb 2824 = some (.code (pg_mn 269) (pg_by 269) (pg_ml 269) (pg_rt 269)) := by rfl
set_option maxRecDepth 1000000 in
theorem pg_w270 : pg_tb 2828 = some (.code (pg_mn 270) (pg_by 270) (pg_ml 270) (pg_rt 270)) := by rfl
set_option maxRecDepth 1000000 in
theorem pg_w271 : pg_tb 2832 = some (.code (pg_mn 271) (pg_by 271) (pg_ml 271) (pg_rt 271)) := by rfl
set_option maxRecDepth 1000000 in
theorem pg_w272 : pg_tb 2836 = some (.code (pg_mn 272) (pg_by 272) (pg_ml 272) (pg_rt 272)) := by rfl
set_option maxRecDepth 1000000 in
theorem pg_w273 : pg_tb 2840 = some (.code (pg_mn 273) (pg_by 273) (pg_ml 273) (pg_rt 273)) := by rfl
set_option maxRecDepth 1000000 in
theorem pg_w274 : pg_tb 2844 = some (.code (pg_mn 274) (pg_by 274) (pg_ml 274) (pg_rt 274)) := by rfl
set_option maxRecDepth 1000000 in
theorem pg_w275 : pg_tb 2848 = some (.code (pg_mn 275) (pg_by 275) (pg_ml 275) (pg_rt 275)) := by rfl
set_option maxRecDepth 1000000 in
theorem pg_w276 : pg_tb 2852 = some (.code (pg_mn 276) (pg_by 276) (pg_ml 276) (pg_rt 276)) := by rfl
set_option maxRecDepth 1000000 in
theorem pg_w277 : pg_tb 2856 = some (.code (pg_mn 277) (pg_by 277) (pg_ml 277) (pg_rt 277)) := by rfl
set_option maxRecDepth 1000000 in
theorem pg_w278 : pg_tb 2860 = some (.code (pg_mn 278) (pg_by 278) (pg_ml 278) (pg_rt 278)) := by rfl
set_option maxRecDepth 1000000 in
theorem pg_w279 : pg_tb 2864 = some (.code (pg_mn 279) (pg_by 279) (pg_ml 279) (pg_rt 279)) := by rfl
set_option maxRecDepth 1000000 in
theorem pg_w280 : pg_tb 2868 = some (.code (pg_mn 280) (pg_by 280) (pg_ml 280) (pg_rt 280)) := by rfl
set_option maxRecDepth 1000000 in
theorem pg_w281 : pg_tb 2872 = some (.code (pg_mn 281) (pg_by 281) (pg_ml 281) (pg_rt 281)) := by rfl
set_option maxRecDepth 1000000 in
theorem pg_w282 : pg_tb 2876 = some (.code (pg_mn 282) (pg_by 282) (pg_ml 282) (pg_rt 282)) := by rfl
set_option maxRecDepth 1000000 in
theorem pg_w283 : pg_tb 2880 = some (.code (pg_mn 283) (pg_by 283) (pg_ml 283) (pg_rt 283)) := by rfl
set_option maxRecDepth 1000000 in
theorem pg_w284 : pg_tb 2884 = some (.code (pg_mn 284) (pg_by 284) (pg_ml 284) (pg_rt 284)) := by rfl
set_option maxRecDepth 1000000 in
theorem pg_w285 : pg_tb 2888 = some (.code (pg_mn 285) (pg_by 285) (pg_ml 285) (pg_rt 285)) := by rfl
set_option maxRecDepth 1000000 in
theorem pg_w286 : pg_tb 2892 = some (.code (pg_mn 286) (pg_by 286) (pg_ml 286) (pg_rt 286)) := by rfl
set_option maxRecDepth 1000000 in
theorem pg_w287 : pg_tb 2896 = some (.code (pg_mn 287) (pg_by 287) (pg_ml 287) (pg_rt 287)) := by rfl
set_option maxRecDepth 1000000 in
theorem pg_w288 : pg_tb 2900 = some (.code (pg_mn 288) (pg_by 288) (pg_ml 288) (pg_rt 288)) := by rfl
set_option maxRecDepth 1000000 in
theorem pg_w289 : pg_tb 2905 = some (.code (pg_mn 289) (pg_by 289) (pg_ml 289) (pg_rt 289)) := by rfl
set_option maxRecDepth 1000000 in
theorem pg_w290 : pg_tb 2909 = some (.code (pg_mn 290) (pg_by 290) (pg_ml 290) (pg_rt 290)) := by rfl
set_option maxRecDepth 1000000 in
theorem pg_w291 : pg_tb 2913 = some (.code (pg_mn 291) (pg_by 291) (pg_ml 291) (pg_rt 291)) := by rfl
set_option maxRecDepth 1000000 in
theorem pg_w292 : pg_tb 2917 = some (.code (pg_mn 292) (pg_by 292) (pg_ml 292) (pg_rt 292)) := by rfl
set_option maxRecDepth 1000000 in
theorem pg_w293 : pg_tb 2921 = some (.code (pg_mn 293) (pg_by 293) (pg_ml 293) (pg_rt 293)) := by rfl
set_option maxRecDepth 1000000 in
theorem pg_w294 : pg_tb 2925 = some (.code (pg_mn 294) (pg_by 294) (pg_ml 294) (pg_rt 294)) := by rfl
set_option maxRecDepth 1000000 in
theorem pg_w295 : pg_tb 2929 = some (.code (pg_mn 295) (pg_by 295) (pg_ml 295) (pg_rt 295)) := by rfl
set_option maxRecDepth 1000000 in
theorem pg_w296 : pg_tb 2933 = some (.code (pg_mn 296) (pg_by 296) (pg_ml 296) (pg_rt 296)) := by rfl
set_option maxRecDepth 1000000 in
theorem pg_w297 : pg_tb 2938 = some (.code (pg_mn 297) (pg_by 297) (pg_ml 297) (pg_rt 297)) := by rfl
set_option maxRecDepth 1000000 in
theorem pg_w298 : pg_tb 2942 = some (.code (pg_mn 298) (pg_by 298) (pg_ml 298) (pg_rt 298)) := by rfl
set_option maxRecDepth 1000000 in
theorem pg_w299 : pg_tb 2946 = some (.code (pg_mn 299) (pg_by 299) (pg_ml 299) (pg_rt 299)) := by rfl
set_option maxRecDepth 1000000 in
theorem pg_w300 : pg_tb 2950 = some (.code (pg_mn 300) (pg_by 300) (pg_ml 300) (pg_rt 300)) := by rfl
set_option maxRecDepth 1000000 in
theorem pg_w301 : pg_tb 2954 = some (.code (pg_mn 301) (pg_by 301) (pg_ml 301) (pg_rt 301)) := by rfl
set_option maxRecDepth 1000000 in
theorem pg_w302 : pg_tb 2957 = some (.code (pg_mn 302) (pg_by 302) (pg_ml 302) (pg_rt 302)) := by rfl
set_option maxRecDepth 1000000 in
theorem pg_w303 : pg_tb 2961 = some (.code (pg_mn 303) (pg_by 303) (pg_ml 303) (pg_rt 303)) := by rfl
set_option maxRecDepth 1000000 in
theorem pg_w304 : pg_tb 2965 = some (.code (pg_mn 304) (pg_by 304) (pg_ml 304) (pg_rt 304)) := by rfl
set_option maxRecDepth 1000000 in
theorem pg_w305 : pg_tb 2971 = some (.code (pg_mn 305) (pg_by 305) (pg_ml 305) (pg_rt 305)) := by rfl
set_option maxRecDepth 1000000 in
theorem pg_w306 : pg_tb 2975 = some (.code (pg_mn 306) (pg_by 306) (pg_ml 306) (pg_rt 306)) := by rfl
set_option maxRecDepth 1000000 in
theorem pg_w307 : pg_tb 2979 = some (.code (pg_mn 307) (pg_by 307) (pg_ml 307) (pg_rt 307)) := by rfl
set_option maxRecDepth 1000000 in
theorem pg_w308 : pg_tb 2983 = some (.code (pg_mn 308) (pg_by 308) (pg_ml 308) (pg_rt 308)) := by rfl
set_option maxRecDepth 1000000 in
theorem pg_w309 : pg_tb 2987 = some (.code (pg_mn 309) (pg_by 309) (pg_ml 309) (pg_rt 309)) := by rfl
set_option maxRecDepth 1000000 in
theorem pg_w310 : pg_tb 2992 = some (.code (pg_mn 310) (pg_by 310) (pg_ml 310) (pg_rt 310)) := by rfl
set_option maxRecDepth 1000000 in
theorem pg_w311 : pg_tb 2997 = some (.code (pg_mn 311) (pg_by 311) (pg_ml 311) (pg_rt 311)) := by rfl
set_option maxRecDepth 1000000 in
theorem pg_w312 : pg_tb 3001 = some (.code (pg_mn 312) (pg_by 312) (pg_ml 312) (pg_rt 312)) := by rfl
set_option maxRecDepth 1000000 in
theorem pg_w313 : pg_tb 3005 = some (.code (pg_mn 313) (pg_by 313) (pg_ml 313) (pg_rt 313)) := by rfl
set_option maxRecDepth 1000000 in
theorem pg_w314 : pg_tb 3009 = some (.code (pg_mn 314) (pg_by 314) (pg_ml 314) (pg_rt 314)) := by rfl
set_option maxRecDepth 1000000 in
theorem pg_w315 : pg_tb 3013 = some (.code (pg_mn 315) (pg_by 315) (pg_ml 315) (pg_rt 315)) := by rfl
set_option maxRecDepth 1000000 in
theorem pg_w316 : pg_tb 3017 = some (.code (pg_mn 316) (pg_by 316) (pg_ml 316) (pg_rt 316)) := by rfl
set_option maxRecDepth 1000000 in
theorem pg_w317 : pg_tb 3021 = some (.code (pg_mn 317) (pg_by 317) (pg_ml 317) (pg_rt 317)) := by rfl
set_option maxRecDepth 1000000 in
theorem pg_w318 : pg_tb 3025 = some (.code (pg_mn 318) (pg_by 318) (pg_ml 318) (pg_rt 318)) := by rfl
set_option maxRecDepth 1000000 in
theorem pg_w319 : pg_tb 3029 = some (.code (pg_mn 319) (pg_by 319) (pg_ml 319) (pg_rt 319)) := by rfl
set_option maxRecDepth 1000000 in
theorem pg_w320 : pg_tb 3033 = some (.code (pg_mn 320) (pg_by 320) (pg_ml 320) (pg_rt 320)) := by rfl
set_option maxRecDepth 1000000 in
theorem pg_w321 : pg_tb 3037 = some (.code (pg_mn 321) (pg_by 321) (pg_ml 321) (pg_rt 321)) := by rfl
set_option maxRecDepth 1000000 in
theorem pg_w322 : pg_tb 3042 = some (.code (pg_mn 322) (pg_by 322) (pg_ml 322) (pg_rt 322)) := by rfl
set_option maxRecDepth 1000000 in
theorem pg_w323 : pg_tb 3048 = some (.code (pg_mn 323) (pg_by 323) (pg_ml 323) (pg_rt 323)) := by rfl
set_option maxRecDepth 1000000 in
theorem pg_w324 : pg_tb 3055 = some (.code (pg_mn 324) (pg_by 324) (pg_ml 324) (pg_rt 324)) := by rfl
set_option maxRecDepth 1000000 in
theorem pg_w325 : pg_tb 3059 = some (.code (pg_mn 325) (pg_by 325) (pg_ml 325) (pg_rt 325)) := by rfl
set_option maxRecDepth 1000000 in
theorem pg_w326 : pg_tb 3063 = some (.code (pg_mn 326) (pg_by 326) (pg_ml 326) (pg_rt 326)) := by rfl
set_option maxRecDepth 1000000 in
theorem pg_w327 : pg_tb 3067 = some (.code (pg_mn 327) (pg_by 327) (pg_ml 327) (pg_rt 327)) := by rfl
set_option maxRecDepth 1000000 in
theorem pg_w328 : pg_tb 3072 = some (.code (pg_mn 328) (pg_by 328) (pg_ml 328) (pg_rt 328)) := by rfl
set_option maxRecDepth 1000000 in
theorem pg_w329 : pg_tb 3076 = some (.code (pg_mn 329) (pg_by 329) (pg_ml 329) (pg_rt 329)) := by rfl
set_option maxRecDepth 1000000 in
theorem pg_w330 : pg_tb 3080 = some (.code (pg_mn 330) (pg_by 330) (pg_ml 330) (pg_rt 330)) := by rfl
set_option maxRecDepth 1000000 in
theorem pg_w331 : pg_tb 3084 = some (.code (pg_mn 331) (pg_by 331) (pg_ml 331) (pg_rt 331)) := by rfl
set_option maxRecDepth 1000000 in
theorem pg_w332 : pg_tb 3089 = some (.code (pg_mn 332) (pg_by 332) (pg_ml 332) (pg_rt 332)) := by rfl
set_option maxRecDepth 1000000 in
theorem pg_w333 : pg_tb 3093 = some (.code (pg_mn 333) (pg_by 333) (pg_ml 333) (pg_rt 333)) := by rfl
set_option maxRecDepth 1000000 in
theorem pg_w334 : pg_tb 3097 = some (.code (pg_mn 334) (pg_by 334) (pg_ml 334) (pg_rt 334)) := by rfl
set_option maxRecDepth 1000000 in
theorem pg_w335 : pg_tb 3101 = some (.code (pg_mn 335) (pg_by 335) (pg_ml 335) (pg_rt 335)) := by rfl
set_option maxRecDepth 1000000 in
theorem pg_w336 : pg_tb 3105 = some (.code (pg_mn 336) (pg_by 336) (pg_ml 336) (pg_rt 336)) := by rfl
set_option maxRecDepth 1000000 in
theorem pg_w337 : pg_tb 3109 = some (.code (pg_mn 337) (pg_by 337) (pg_ml 337) (pg_rt 337)) := by rfl
set_option maxRecDepth 1000000 in
theorem pg_w338 : pg_tb 3113 = some (.code (pg_mn 338) (pg_by 338) (pg_ml 338) (pg_rt 338)) := by rfl
set_option maxRecDepth 1000000 in
theorem pg_w339 : pg_tb 3117 = some (.code (pg_mn 339) (pg_by 339) (pg_ml 339) (pg_rt 339)) := by rfl
set_option maxRecDepth 1000000 in
theorem pg_w340 : pg_tb 3121 = some (.code (pg_mn 340) (pg_by 340) (pg_ml 340) (pg_rt 340)) := by rfl
set_option maxRecDepth 1000000 in
theorem pg_w341 : pg_tb 3125 = some (.code (pg_mn 341) (pg_by 341) (pg_ml 341) (pg_rt 341)) := by rfl
set_option maxRecDepth 1000000 in
theorem pg_w342 : pg_tb 3129 = some (.code (pg_mn 342) (pg_by 342) (pg_ml 342) (pg_rt 342)) := by rfl
set_option maxRecDepth 1000000 in
theorem pg_w343 : pg_tb 3133 = some (.code (pg_mn 343) (pg_by 343) (pg_ml 343) (pg_rt 343)) := by rfl
set_option maxRecDepth 1000000 in
theorem pg_w344 : pg_tb 3137 = some (.code (pg_mn 344) (pg_by 344) (pg_ml 344) (pg_rt 344)) := by rfl
set_option maxRecDepth 1000000 in
theorem pg_w345 : pg_tb 3141 = some (.code (pg_mn 345) (pg_by 345) (pg_ml 345) (pg_rt 345)) := by rfl
set_option maxRecDepth 1000000 in
theorem pg_w346 : pg_tb 3145 = some (.code (pg_mn 346) (pg_by 346) (pg_ml 346) (pg_rt 346)) := by rfl
set_option maxRecDepth 1000000 in
theorem pg_w347 : pg_tb 3149 = some (.code (pg_mn 347) (pg_by 347) (pg_ml 347) (pg_rt 347)) := by rfl
set_option maxRecDepth 1000000 in
theorem pg_w348 : pg_tb 3153 = some (.code (pg_mn 348) (pg_by 348) (pg_ml 348) (pg_rt 348)) := by rfl
set_option maxRecDepth 1000000 in
theorem pg_w349 : pg_tb 3157 = some (.code (pg_mn 349) (pg_by 349) (pg_ml 349) (pg_rt 349)) := by rfl
set_option maxRecDepth 1000000 in
theorem pg_w350 : pg_tb 3161 = some (.code (pg_mn 350) (pg_by 350) (pg_ml 350) (pg_rt 350)) := by rfl
set_option maxRecDepth 1000000 in
theorem pg_w351 : pg_tb 3165 = some (.code (pg_mn 351) (pg_by 351) (pg_ml 351) (pg_rt 351)) := by rfl
set_option maxRecDepth 1000000 in
theorem pg_w352 : pg_tb 3169 = some (.code (pg_mn 352) (pg_by 352) (pg_ml 352) (pg_rt 352)) := by rfl
set_option maxRecDepth 1000000 in
theorem pg_w353 : pg_tb 3173 = some (.code (pg_mn 353) (pg_by 353) (pg_ml 353) (pg_rt 353)) := by rfl
set_option maxRecDepth 1000000 in
theorem pg_w354 : pg_tb 3177 = some (.code (pg_mn 354) (pg_by 354) (pg_ml 354) (pg_rt 354)) := by rfl
set_option maxRecDepth 1000000 in
theorem pg_w355 : pg_tb 3181 = some (.code (pg_mn 355) (pg_by 355) (pg_ml 355) (pg_rt 355)) := by rfl
set_option maxRecDepth 1000000 in
theorem pg_w356 : pg_tb 3185 = some (.code (pg_mn 356) (pg_by 356) (pg_ml 356) (pg_rt 356)) := by rfl
set_option maxRecDepth 1000000 in
theorem pg_w357 : pg_tb 3190 = some (.code (pg_mn 357) (pg_by 357) (pg_ml 357) (pg_rt 357)) := by rfl
set_option maxRecDepth 1000000 in
theorem pg_w358 : pg_tb 3194 = some (.code (pg_mn 358) (pg_by 358) (pg_ml 358) (pg_rt 358)) := by rfl
set_option maxRecDepth 1000000 in
theorem pg_w359 : pg_tb 3197 = some (.code (pg_mn 359) (pg_by 359) (pg_ml 359) (pg_rt 359)) := by rfl
set_option maxRecDepth 1000000 in
theorem pg_w360 : pg_tb 3201 = some (.code (pg_mn 360) (pg_by 360) (pg_ml 360) (pg_rt 360)) := by rfl
set_option maxRecDepth 1000000 in
theorem pg_w361 : pg_tb 3205 = some (.code (pg_mn 361) (pg_by 361) (pg_ml 361) (pg_rt 361)) := by rfl
set_option maxRecDepth 1000000 in
theorem pg_w362 : pg_tb 3209 = some (.code (pg_mn 362) (pg_by 362) (pg_ml 362) (pg_rt 362)) := by rfl
set_option maxRecDepth 1000000 in
theorem pg_w363 : pg_tb 3213 = some (.code (pg_mn 363) (pg_by 363) (pg_ml 363) (pg_rt 363)) := by rfl
set_option maxRecDepth 1000000 in
theorem pg_w364 : pg_tb 3217 = some (.code (pg_mn 364) (pg_by 364) (pg_ml 364) (pg_rt 364)) := by rfl
set_option maxRecDepth 1000000 in
theorem pg_w365 : pg_tb 3221 = some (.code (pg_mn 365) (pg_by 365) (pg_ml 365) (pg_rt 365)) := by rfl
set_option maxRecDepth 1000000 in
theorem pg_w366 : pg_tb 3226 = some (.code (pg_mn 366) (pg_by 366) (pg_ml 366) (pg_rt 366)) := by rfl
set_option maxRecDepth 1000000 in
theorem pg_w367 : pg_tb 3230 = some (.code (pg_mn 367) (pg_by 367) (pg_ml 367) (pg_rt 367)) := by rfl
set_option maxRecDepth 1000000 in
theorem pg_w368 : pg_tb 3234 = some (.code (pg_mn 368) (pg_by 368) (pg_ml 368) (pg_rt 368)) := by rfl
set_option maxRecDepth 1000000 in
theorem pg_w369 : pg_tb 3238 = some (.code (pg_mn 369) (pg_by 369) (pg_ml 369) (pg_rt 369)) := by rfl
set_option maxRecDepth 1000000 in
theorem pg_w370 : pg_tb 3242 = some (.code (pg_mn 370) (pg_by 370) (pg_ml 370) (pg_rt 370)) := by rfl
set_option maxRecDepth 1000000 in
theorem pg_w371 : pg_tb 3246 = some (.code (pg_mn 371) (pg_by 371) (pg_ml 371) (pg_rt 371)) := by rfl
set_option maxRecDepth 1000000 in
theorem pg_w372 : pg_tb 3250 = some (.code (pg_mn 372) (pg_by 372) (pg_ml 372) (pg_rt 372)) := by rfl
set_option maxRecDepth 1000000 in
theorem pg_w373 : pg_tb 3254 = some (.code (pg_mn 373) (pg_by 373) (pg_ml 373) (pg_rt 373)) := by rfl
set_option maxRecDepth 1000000 in
theorem pg_w374 : pg_tb 3258 = some (.code (pg_mn 374) (pg_by 374) (pg_ml 374) (pg_rt 374)) := by rfl
set_option maxRecDepth 1000000 in
theorem pg_w375 : pg_tb 3262 = some (.code (pg_mn 375) (pg_by 375) (pg_ml 375) (pg_rt 375)) := by rfl
set_option maxRecDepth 1000000 in
theorem pg_w376 : pg_tb 3266 = some (.code (pg_mn 376) (pg_by 376) (pg_ml 376) (pg_rt 376)) := by rfl
set_option maxRecDepth 1000000 in
theorem pg_w377 : pg_tb 3270 = some (.code (pg_mn 377) (pg_by 377) (pg_ml 377) (pg_rt 377)) := by rfl
set_option maxRecDepth 1000000 in
theorem pg_w378 : pg_tb 1045 = some (.code (pg_mn 378) (pg_by 378) (pg_ml 378) (pg_rt 378)) := by rfl
set_option maxRecDepth 1000000 in
theorem pg_w379 : pg_tb 1048 = some (.code (pg_mn 379) (pg_by 379) (pg_ml 379) (pg_rt 379)) := by rfl
set_option maxRecDepth 1000000 in
theorem pg_w380 : pg_tb 1361 = some (.code (pg_mn 380) (pg_by 380) (pg_ml 380) (pg_rt 380)) := by rfl
set_option maxRecDepth 1000000 in
theorem pg_w381 : pg_tb 1461 = some (.code (pg_mn 381) (pg_by 381) (pg_ml 381) (pg_rt 381)) := by rfl
end
section
/-! links, by the class that has them -/
def pg_fkL : List (List (Nat × Nat × Nat × Nat)) := [
  [(14, 0, 0, 741), (19, 0, 1, 742), (22, 0, 2, 743), (25, 0, 3, 744), (30, 0, 4, 745), (37, 0, 5, 746), (41, 0, 7, 748), (47, 0, 8, 749), (51, 0, 9, 750), (57, 0, 10, 751), (66, 0, 11, 752), (75, 0, 12, 753), (84, 0, 13, 754), (93, 0, 14, 755), (102, 0, 15, 756), (109, 0, 16, 757), (120, 10, 1, 57), (133, 0, 6, 747), (172, 6, 2, 261), (180, 5, 7, 186), (190, 3, 18, 460), (195, 1, 4, 639), (211, 4, 0, 698), (243, 7, 8, 99), (255, 3, 3, 434), (258, 5, 14, 211), (266, 7, 15, 113), (270, 7, 16, 116), (274, 2, 11, 569), (281, 8, 1, 291), (285, 8, 2, 294), (288, 8, 3, 297), (291, 8, 4, 302), (294, 8, 5, 308), (297, 8, 11, 331), (302, 0, 17, 758), (323, 4, 6, 705), (326, 4, 7, 707), (329, 4, 12, 713), (335, 3, 19, 463), (338, 3, 14, 452), (346, 2, 12, 572), (349, 3, 17, 458), (352, 9, 4, 521), (353, 2, 17, 581), (371, 10, 0, 54), (378, 3, 13, 447), (390, 7, 4, 87)],
  [(9, 1, 0, 634), (15, 1, 1, 635), (19, 1, 2, 636), (23, 1, 3, 637), (33, 1, 4, 638), (39, 2, 4, 551), (55, 2, 16, 577), (59, 2, 18, 582), (66, 2, 11, 567), (74, 8, 4, 298), (79, 8, 10, 322), (87, 10, 0, 49), (91, 8, 7, 311), (94, 8, 5, 303), (101, 2, 5, 554), (105, 9, 5, 523), (110, 2, 6, 557), (113, 9, 3, 518), (114, 9, 1, 514), (117, 9, 2, 516), (120, 2, 13, 573), (123, 2, 12, 570), (134, 3, 3, 431), (140, 3, 12, 445), (169, 5, 14, 207), (180, 2, 7, 560), (183, 2, 8, 563), (189, 8, 11, 327), (190, 3, 14, 449), (197, 7, 8, 96), (221, 3, 19, 461), (242, 2, 17, 579), (271, 7, 5, 90)],
  [(9, 2, 0, 546), (15, 2, 1, 547), (21, 2, 2, 548), (26, 2, 3, 549), (30, 2, 4, 550), (34, 2, 5, 553), (38, 2, 6, 556), (41, 2, 7, 559), (44, 2, 8, 562), (47, 2, 9, 564), (51, 2, 10, 565), (54, 2, 11, 566), (58, 8, 4, 299), (66, 2, 18, 583), (86, 8, 10, 324), (96, 8, 11, 329), (99, 3, 3, 432), (105, 6, 2, 260), (116, 5, 14, 210), (125, 3, 14, 450), (132, 8, 9, 320), (139, 2, 12, 571), (142, 2, 13, 574), (161, 7, 8, 97), (200, 5, 16, 215), (203, 5, 15, 213), (209, 2, 17, 580), (215, 8, 5, 306), (222, 3, 15, 455), (232, 5, 8, 191), (234, 5, 5, 179), (237, 5, 13, 204), (261, 2, 14, 575), (264, 9, 5, 524), (265, 9, 4, 520), (277, 2, 15, 576), (280, 5, 7, 188), (283, 2, 16, 578), (286, 8, 6, 310), (292, 5, 6, 183), (300, 8, 8, 317)],
  [(9, 3, 0, 426), (15, 3, 1, 427), (19, 3, 2, 428), (27, 3, 3, 430), (32, 3, 4, 435), (37, 3, 5, 436), (43, 3, 6, 437), (49, 3, 7, 438), (55, 3, 8, 439), (59, 3, 9, 440), (62, 3, 10, 441), (66, 3, 11, 442), (70, 3, 12, 444), (79, 3, 13, 446), (82, 3, 18, 459), (86, 3, 14, 448), (89, 3, 15, 454), (92, 6, 1, 258), (99, 5, 5, 177), (102, 5, 6, 181), (109, 7, 10, 102), (121, 8, 8, 315), (128, 8, 9, 319), (135, 7, 4, 86), (165, 7, 15, 112), (167, 7, 16, 115), (170, 3, 17, 457), (173, 3, 19, 462), (177, 6, 2, 262), (188, 5, 7, 187), (195, 5, 11, 200), (197, 5, 4, 176), (207, 7, 11, 107), (213, 7, 0, 78), (249, 8, 0, 288), (251, 7, 1, 80), (254, 8, 1, 290), (255, 7, 2, 82), (258, 8, 2, 293), (259, 8, 3, 296), (262, 8, 4, 301), (269, 8, 5, 307), (281, 8, 6, 309), (284, 7, 5, 91), (290, 8, 7, 314), (295, 8, 10, 325), (298, 8, 11, 330), (301, 8, 12, 333), (307, 7, 8, 100), (318, 5, 12, 202), (328, 5, 10, 198), (336, 5, 8, 192), (339, 5, 9, 195), (342, 5, 13, 205), (346, 3, 16, 456)],
  [(15, 4, 0, 697), (21, 4, 1, 699), (25, 4, 2, 700), (28, 4, 3, 701), (31, 4, 4, 702), (35, 4, 5, 703), (38, 10, 1, 55), (78, 10, 0, 51), (84, 4, 7, 706), (88, 4, 6, 704), (94, 4, 12, 712), (97, 4, 9, 709), (116, 4, 8, 708), (119, 4, 10, 710), (122, 4, 11, 711)],
  [(9, 5, 0, 166), (15, 5, 1, 168), (18, 5, 2, 170), (21, 5, 3, 172), (47, 5, 4, 175), (50, 5, 5, 178), (53, 5, 6, 182), (57, 5, 7, 185), (60, 5, 8, 190), (63, 5, 9, 194), (66, 5, 10, 197), (70, 5, 11, 199), (73, 5, 12, 201), (76, 5, 13, 203), (79, 5, 14, 209), (82, 5, 15, 212), (85, 5, 16, 214), (88, 5, 17, 216)],
  [(15, 6, 0, 256), (22, 6, 1, 257), (26, 6, 2, 259), (30, 5, 0, 167), (34, 5, 1, 169), (37, 5, 2, 171), (40, 5, 3, 173)],
  [(9, 7, 0, 77), (15, 7, 1, 79), (19, 7, 2, 81), (22, 7, 3, 83), (26, 7, 4, 84), (29, 7, 5, 88), (32, 7, 6, 92), (35, 7, 8, 95), (38, 7, 9, 101), (41, 7, 11, 106), (44, 7, 15, 111), (48, 7, 16, 114), (51, 10, 0, 50), (60, 7, 7, 94), (85, 7, 10, 103), (95, 7, 12, 108), (168, 7, 13, 109), (212, 7, 14, 110)],
  [],
  [(9, 9, 0, 512), (16, 9, 1, 513), (20, 9, 2, 515), (23, 9, 3, 517), (27, 9, 4, 519), (30, 9, 5, 522), (34, 8, 7, 312), (39, 8, 5, 304), (54, 10, 0, 52), (58, 8, 9, 318), (62, 8, 10, 323), (65, 8, 11, 328)],
  [(15, 10, 0, 48), (21, 10, 1, 56), (25, 10, 2, 59)],
  [(9, 11, 0, 660), (15, 11, 1, 661), (19, 11, 2, 662), (28, 11, 3, 663), (31, 11, 4, 664), (37, 11, 5, 665), (44, 7, 11, 105), (57, 10, 1, 58), (82, 3, 11, 443), (118, 2, 11, 568), (127, 8, 11, 326), (133, 8, 5, 305), (137, 8, 4, 300), (140, 8, 1, 289), (145, 8, 2, 292), (148, 8, 3, 295), (151, 3, 15, 453), (158, 5, 14, 208), (159, 10, 2, 60), (171, 5, 3, 174), (189, 7, 4, 85), (201, 7, 6, 93), (204, 10, 0, 53), (207, 7, 5, 89), (224, 3, 14, 451), (252, 11, 8, 668), (259, 8, 9, 321), (262, 8, 12, 332), (269, 7, 8, 98), (279, 11, 7, 667), (282, 11, 6, 666), (285, 3, 3, 433), (289, 6, 2, 263), (295, 5, 17, 217), (300, 3, 2, 429), (325, 8, 7, 313), (357, 7, 10, 104), (361, 8, 8, 316), (375, 5, 5, 180), (378, 5, 6, 184), (381, 5, 9, 196), (384, 5, 7, 189), (387, 5, 8, 193), (403, 5, 13, 206), (408, 2, 4, 552), (415, 2, 6, 558), (418, 2, 5, 555), (421, 2, 7, 561)],
  [(7, 12, 1, 2175), (14, 12, 3, 2177), (17, 12, 6, 2180), (20, 12, 7, 2181), (24, 12, 8, 2182), (27, 12, 9, 2183), (30, 12, 10, 2184), (33, 12, 11, 2185), (37, 12, 12, 2186), (40, 12, 13, 2187), (44, 12, 17, 2191), (47, 12, 18, 2192), (50, 12, 19, 2193), (54, 12, 21, 2195), (57, 12, 22, 2196), (60, 12, 23, 2197), (63, 12, 24, 2198), (66, 12, 25, 2199), (69, 12, 26, 2200), (72, 12, 27, 2201), (75, 12, 28, 2202), (78, 12, 29, 2203), (82, 12, 30, 2204), (85, 12, 33, 2207), (88, 12, 34, 2208), (91, 12, 35, 2209), (94, 12, 36, 2210), (97, 12, 37, 2211), (100, 12, 38, 2212), (103, 12, 39, 2213), (106, 12, 40, 2214), (109, 12, 41, 2215), (112, 12, 42, 2216), (115, 12, 45, 2219), (118, 12, 46, 2220), (121, 12, 47, 2221), (124, 12, 49, 2223), (127, 12, 51, 2225), (130, 12, 52, 2226), (133, 12, 53, 2227), (136, 12, 54, 2228), (139, 12, 55, 2229), (142, 12, 56, 2230), (145, 12, 57, 2231), (148, 12, 58, 2232), (151, 12, 59, 2233), (154, 12, 60, 2234), (157, 12, 61, 2235), (160, 12, 62, 2236), (163, 12, 63, 2237), (166, 12, 65, 2239), (169, 12, 66, 2240), (172, 12, 67, 2241), (175, 12, 71, 2245), (178, 12, 72, 2246), (181, 12, 73, 2247), (184, 12, 75, 2249), (187, 12, 76, 2250), (190, 12, 77, 2251), (193, 12, 78, 2252), (196, 12, 91, 2265), (200, 12, 92, 2266), (203, 12, 93, 2267), (206, 12, 94, 2268), (209, 12, 95, 2269), (212, 12, 96, 2270), (215, 12, 97, 2271), (218, 12, 99, 2273), (221, 12, 100, 2274), (224, 12, 105, 2279), (227, 12, 106, 2280), (230, 12, 107, 2281), (233, 12, 108, 2282), (236, 12, 109, 2283), (239, 12, 110, 2284), (242, 12, 111, 2285), (245, 12, 112, 2286), (248, 12, 113, 2287), (251, 12, 114, 2288), (254, 12, 116, 2290), (257, 12, 117, 2291), (260, 12, 118, 2292), (263, 12, 119, 2293), (266, 12, 120, 2294), (269, 12, 121, 2295), (272, 12, 122, 2296), (275, 12, 128, 2302), (278, 12, 129, 2303), (281, 12, 0, 2174), (284, 12, 2, 2176), (467, 12, 5, 2179), (473, 12, 20, 2194), (486, 12, 31, 2205), (489, 12, 48, 2222), (492, 12, 32, 2206), (509, 12, 68, 2242), (519, 12, 4, 2178), (522, 12, 70, 2244), (528, 12, 69, 2243), (531, 12, 14, 2188), (557, 12, 98, 2272), (577, 12, 74, 2248), (601, 12, 50, 2224), (607, 12, 89, 2263), (614, 12, 88, 2262), (626, 12, 90, 2264), (630, 12, 15, 2189), (643, 12, 81, 2255), (650, 12, 84, 2258), (653, 12, 85, 2259), (656, 12, 86, 2260), (659, 12, 83, 2257), (662, 12, 87, 2261), (665, 12, 64, 2238), (674, 12, 80, 2254), (681, 12, 79, 2253), (696, 12, 82, 2256), (747, 12, 16, 2190), (799, 12, 43, 2217), (813, 12, 123, 2297), (816, 12, 126, 2300), (822, 12, 125, 2299), (825, 12, 124, 2298), (884, 12, 127, 2301), (916, 12, 101, 2275), (924, 12, 115, 2289), (936, 12, 103, 2277), (939, 12, 102, 2276), (942, 12, 104, 2278), (948, 12, 44, 2218)],
  [],
  [],
  [],
  [],
  [],
  [],
  [],
  []]
def pg_fk (oc : Nat) : List (Nat × Nat × Nat × Nat) := pg_fkL.getD oc []
def pg_mkL : List (List (Nat × Nat × Nat)) := [
  [(11, 166, 41), (34, 125, 73), (46, 121, 154), (63, 71, 275), (72, 160, 507), (81, 49, 540), (90, 39, 627), (99, 182, 653), (108, 100, 690), (129, 170, 1845), (138, 16, 1854), (142, 168, 1558), (145, 20, 1965), (150, 2, 800), (154, 183, 1572), (158, 6, 1669), (162, 23, 1984), (168, 124, 1991), (177, 123, 1993), (186, 198, 1681), (198, 203, 2010), (202, 101, 1722), (206, 102, 1730), (214, 105, 1753), (217, 117, 1757), (221, 119, 1563), (224, 103, 1758), (228, 27, 2036), (237, 206, 2060), (246, 126, 2085), (249, 127, 2086), (252, 208, 2094), (261, 28, 2040), (273, 133, 2122), (277, 57, 2131), (298, 106, 1763), (305, 108, 1785), (308, 110, 1803), (311, 111, 1812), (317, 177, 1868), (332, 38, 2156), (340, 99, 2160), (343, 61, 2164), (356, 72, 804), (359, 50, 1008), (362, 68, 1423), (365, 40, 1428), (368, 44, 1503), (374, 174, 1559), (381, 114, 1988), (384, 167, 1870), (387, 115, 1989), (393, 143, 1873), (400, 179, 1859), (404, 17, 1860), (408, 144, 1877), (412, 18, 1864)],
  [(30, 166, 633), (36, 41, 1432), (51, 42, 1471), (62, 171, 1452), (70, 57, 1475), (83, 43, 1476), (97, 172, 1481), (126, 69, 1486), (130, 173, 1499), (143, 124, 1436), (149, 168, 1437), (155, 169, 1443), (163, 170, 1463), (176, 61, 1467), (186, 58, 1480), (193, 94, 1507), (202, 97, 1508), (206, 139, 1509), (210, 130, 1510), (213, 45, 1511), (217, 128, 1515), (228, 98, 1528), (231, 46, 1529), (234, 47, 1540), (238, 48, 1546), (247, 54, 1545), (251, 80, 1550), (255, 141, 1551), (258, 96, 1555), (261, 140, 1556), (264, 165, 1557), (268, 70, 1533)],
  [(70, 51, 1012), (73, 52, 1036), (76, 56, 1355), (79, 60, 1376), (82, 57, 1362), (90, 165, 1410), (108, 122, 1414), (112, 66, 1415), (119, 161, 1016), (128, 77, 1022), (135, 162, 1023), (151, 378, 1043), (157, 94, 1328), (166, 97, 1329), (169, 139, 1333), (173, 130, 1334), (177, 53, 1335), (181, 128, 1339), (185, 98, 1340), (189, 54, 1346), (193, 55, 1351), (196, 80, 1350), (206, 70, 1490), (212, 380, 1359), (218, 58, 1366), (225, 90, 1372), (228, 59, 1373), (238, 61, 1380), (254, 62, 1391), (257, 63, 1395), (266, 64, 1399), (272, 65, 1403), (294, 67, 1419), (297, 136, 1494), (303, 140, 1495)],
  [(24, 121, 280), (46, 125, 362), (75, 113, 366), (95, 80, 905), (105, 94, 981), (112, 128, 900), (118, 77, 840), (124, 138, 985), (132, 73, 808), (138, 75, 832), (142, 84, 927), (148, 87, 950), (158, 88, 957), (162, 89, 961), (180, 122, 812), (184, 123, 816), (191, 74, 828), (200, 118, 945), (203, 85, 931), (210, 137, 935), (217, 133, 879), (220, 117, 883), (224, 124, 941), (227, 86, 942), (231, 76, 836), (235, 78, 871), (238, 79, 891), (241, 82, 913), (245, 126, 844), (265, 127, 848), (272, 129, 856), (287, 130, 863), (292, 131, 867), (304, 132, 875), (310, 134, 895), (315, 135, 901), (321, 81, 909), (325, 136, 917), (331, 83, 921), (343, 90, 965), (349, 91, 969), (353, 93, 977), (357, 92, 973), (360, 139, 993), (363, 95, 999), (367, 96, 1003)],
  [(12, 166, 696), (46, 179, 1768), (50, 177, 1738), (60, 180, 1775), (64, 107, 1780), (75, 168, 1789), (80, 174, 1790), (91, 109, 1791), (100, 104, 1743), (125, 167, 1747), (129, 178, 1748), (133, 103, 1734), (137, 101, 1807)],
  [(25, 114, 370), (28, 167, 887), (34, 115, 422), (91, 170, 1567)],
  [(43, 124, 820), (47, 116, 824)],
  [(63, 128, 852), (67, 134, 989), (73, 135, 991), (76, 126, 992), (80, 127, 997), (88, 132, 939), (92, 136, 940), (98, 145, 1881), (102, 146, 1888), (105, 148, 1897), (109, 150, 1915), (112, 152, 1925), (116, 154, 1937), (120, 156, 1951), (123, 157, 1956), (133, 147, 1892), (138, 130, 1902), (141, 142, 1903), (144, 149, 1904), (148, 129, 1909), (161, 151, 1919), (173, 153, 1931), (176, 140, 1936), (179, 178, 1935), (191, 378, 1943), (197, 138, 1944), (200, 139, 1945), (203, 155, 1946), (215, 158, 1960)],
  [],
  [(40, 167, 1027), (46, 163, 1028), (50, 164, 1032)],
  [(29, 167, 1742), (37, 170, 1447), (46, 381, 1459)],
  [(25, 166, 658), (41, 168, 1595), (50, 132, 2064), (54, 136, 1644), (60, 171, 1597), (64, 140, 1645), (68, 181, 2065), (74, 170, 1616), (78, 207, 2070), (88, 133, 1689), (91, 117, 1690), (95, 119, 1665), (102, 126, 2073), (123, 57, 2098), (134, 175, 1702), (154, 90, 1589), (163, 199, 1685), (167, 137, 1688), (177, 169, 1693), (181, 200, 1694), (185, 202, 1713), (194, 201, 1699), (198, 176, 1708), (210, 174, 1622), (216, 184, 1576), (219, 185, 1583), (227, 187, 1598), (230, 191, 1623), (233, 193, 1635), (236, 197, 1660), (239, 188, 1607), (246, 173, 1667), (255, 77, 1580), (265, 94, 1581), (272, 97, 1582), (275, 80, 1587), (292, 122, 1588), (296, 186, 1590), (303, 124, 1594), (307, 134, 1602), (310, 142, 1603), (313, 189, 1612), (317, 129, 1617), (320, 190, 1618), (328, 139, 1627), (331, 130, 1628), (336, 128, 1630), (340, 192, 1631), (350, 194, 1640), (353, 196, 1650), (364, 195, 1647), (368, 120, 1654), (372, 118, 1658), (391, 61, 2014), (394, 204, 2015), (398, 205, 2020), (404, 58, 2019)],
  [(287, 212, 2573), (291, 215, 2585), (295, 221, 2612), (299, 220, 2608), (304, 226, 2633), (313, 218, 2601), (317, 230, 2651), (320, 224, 2625), (323, 223, 2621), (326, 235, 2674), (329, 231, 2657), (332, 267, 2813), (343, 219, 2605), (347, 225, 2629), (353, 227, 2639), (356, 228, 2643), (366, 232, 2662), (369, 233, 2666), (372, 234, 2670), (375, 236, 2678), (380, 237, 2684), (383, 238, 2688), (386, 239, 2692), (405, 247, 2728), (408, 242, 2705), (411, 245, 2717), (415, 246, 2721), (419, 241, 2700), (422, 243, 2709), (425, 244, 2713), (431, 251, 2748), (435, 249, 2739), (438, 250, 2744), (441, 217, 2594), (445, 222, 2616), (448, 229, 2647), (451, 240, 2696), (454, 248, 2735), (461, 216, 2590), (464, 252, 2752), (470, 214, 2581), (476, 268, 2817), (479, 262, 2793), (483, 261, 2789), (495, 255, 2765), (499, 256, 2769), (503, 271, 2829), (506, 276, 2849), (513, 273, 2837), (516, 275, 2845), (525, 272, 2833), (534, 270, 2825), (538, 274, 2841), (541, 266, 2809), (544, 277, 2853), (548, 265, 2805), (551, 269, 2821), (554, 264, 2801), (560, 283, 2877), (563, 284, 2881), (567, 282, 2873), (570, 280, 2865), (574, 285, 2885), (580, 298, 2939), (585, 297, 2935), (588, 296, 2930), (591, 287, 2893), (594, 295, 2926), (597, 299, 2943), (604, 288, 2897), (610, 292, 2914), (617, 290, 2906), (620, 291, 2910), (623, 293, 2918), (633, 302, 2955), (636, 303, 2958), (639, 306, 2973), (646, 309, 2984), (670, 307, 2976), (677, 308, 2980), (686, 310, 2989), (690, 301, 2951), (693, 304, 2962), (703, 305, 2968), (709, 311, 2994), (712, 312, 2998), (716, 313, 3002), (719, 317, 3018), (722, 318, 3022), (725, 319, 3026), (732, 315, 3010), (736, 316, 3014), (739, 320, 3030), (743, 322, 3039), (750, 321, 3034), (762, 314, 3006), (766, 260, 2785), (769, 263, 2797), (772, 278, 2857), (775, 279, 2861), (778, 281, 2869), (781, 286, 2889), (784, 289, 2902), (787, 294, 2922), (790, 300, 2947), (793, 323, 3045), (796, 324, 3052), (802, 326, 3060), (805, 327, 3064), (810, 328, 3069), (819, 334, 3094), (828, 336, 3102), (831, 340, 3118), (835, 339, 3114), (838, 338, 3110), (841, 341, 3122), (844, 333, 3090), (847, 335, 3098), (850, 337, 3106), (853, 342, 3126), (856, 344, 3134), (859, 343, 3130), (863, 345, 3138), (866, 347, 3146), (869, 346, 3142), (873, 348, 3150), (877, 259, 3085), (881, 332, 3086), (887, 353, 3170), (890, 350, 3158), (893, 351, 3162), (896, 352, 3166), (899, 354, 3174), (904, 356, 3182), (907, 357, 3187), (910, 359, 3195), (913, 360, 3198), (919, 364, 3214), (927, 363, 3210), (930, 365, 3218), (933, 362, 3206), (945, 366, 3223), (951, 367, 3227), (955, 369, 3235)],
  [],
  [],
  [],
  [(7, 14, 1822), (17, 15, 1849), (21, 21, 1972), (24, 22, 1980), (28, 24, 1997), (31, 25, 2005), (34, 26, 2032), (40, 29, 2080), (44, 30, 2090), (47, 31, 2103), (51, 32, 2110), (55, 33, 2118), (58, 34, 2126), (61, 35, 2135), (65, 36, 2143), (68, 37, 2151), (71, 0, 33), (74, 209, 2167), (77, 382, 1817), (82, 211, 2569), (83, 210, 2565), (86, 383, 1846), (89, 213, 2577), (90, 384, 1969), (92, 253, 2757), (93, 1, 796), (97, 259, 2781), (98, 5, 1568), (101, 331, 3081), (102, 385, 1977), (105, 254, 2761), (106, 386, 1994), (108, 257, 2773), (109, 7, 1673), (112, 258, 2777), (113, 8, 1677), (116, 349, 3154), (117, 387, 2002), (119, 325, 3056), (120, 9, 1718), (124, 368, 3231), (125, 388, 2028), (128, 355, 3178), (129, 389, 2077), (132, 330, 3077), (133, 390, 2087), (135, 358, 3191), (136, 391, 2100), (138, 372, 3247), (139, 392, 2107), (141, 373, 3251), (142, 393, 2115), (144, 329, 3073), (145, 394, 2123), (147, 374, 3255), (148, 395, 2132), (151, 375, 3259), (152, 11, 1759), (155, 361, 3202), (156, 12, 1799), (159, 370, 3239), (160, 13, 1808), (163, 371, 3243), (164, 396, 2140), (166, 376, 3263), (167, 397, 2148), (169, 377, 3267)],
  [(13, 379, 1046)],
  [],
  [],
  []]
def pg_mk (oc : Nat) : List (Nat × Nat × Nat) := pg_mkL.getD oc []
def pg_mhL : List (List (Nat × Nat × Nat)) := [
  [(56, 112, 272)],
  [(224, 4, 1516)],
  [(25, 159, 545), (246, 3, 1386)],
  [(36, 159, 284), (65, 112, 364)],
  [(68, 10, 1726)],
  [],
  [(21, 112, 162)],
  [(56, 10, 1896), (151, 19, 1910), (207, 4, 1950)],
  [],
  [],
  [(33, 10, 1779)],
  [(344, 3, 1611)],
  [],
  [],
  [],
  [],
  [],
  [],
  [],
  [],
  []]
def pg_mh (oc : Nat) : List (Nat × Nat × Nat) := pg_mhL.getD oc []
def pg_nwL : List (List (Nat × Nat × Nat)) := [
  [(9, 10, 39), (28, 7, 70), (44, 6, 152), (54, 5, 271), (61, 3, 273), (70, 9, 505), (79, 2, 538), (88, 1, 625), (97, 11, 651), (106, 4, 688), (113, 13, 1826), (124, 14, 1829), (232, 15, 2044)],
  [(27, 10, 631)],
  [(19, 8, 544)],
  [(22, 6, 279), (30, 8, 281), (41, 7, 361), (53, 5, 363)],
  [(9, 10, 694)],
  [],
  [(13, 5, 159)],
  [],
  [],
  [],
  [],
  [(23, 10, 657)],
  [],
  [],
  [],
  [],
  [(8, 0, 31), (72, 12, 2165)],
  [(43, 13, 1049)],
  [],
  [],
  []]
def pg_nw (oc : Nat) : List (Nat × Nat × Nat) := pg_nwL.getD oc []
def pg_aqL : List (List (Nat × Nat × Nat)) := [
  [(28, 4, 70)],
  [],
  [(19, 6, 544)],
  [(30, 6, 281), (41, 4, 361), (53, 5, 363)],
  [],
  [],
  [(13, 5, 159)],
  [],
  [],
  [],
  [],
  [(35, 5, 659)],
  [],
  [],
  [],
  [],
  [],
  [],
  [],
  [],
  []]
def pg_aq (oc : Nat) : List (Nat × Nat × Nat) := pg_aqL.getD oc []
def pg_liL : List (List (Nat × Nat × Nat)) := [
  [(18, 0, 69)],
  [(29, 0, 632)],
  [],
  [(335, 1, 925), (338, 2, 926)],
  [(11, 0, 695)],
  [],
  [],
  [(171, 2, 1929), (172, 1, 1930)],
  [],
  [(15, 3, 511)],
  [(41, 4, 1706)],
  [(101, 1, 1659), (360, 2, 1646)],
  [(13, 0, 2171), (53, 5, 2172), (199, 6, 2173), (378, 2, 2682), (379, 1, 2683)],
  [],
  [],
  [],
  [],
  [],
  [],
  [],
  []]
def pg_li (oc : Nat) : List (Nat × Nat × Nat) := pg_liL.getD oc []
def pg_llL : List (List (Nat × Nat × Nat)) := [
  [(209, 9, 1752), (415, 11, 1869), (417, 12, 1871), (419, 13, 1872), (421, 10, 1729), (423, 14, 1913), (425, 0, 1519), (427, 1, 1520), (429, 2, 1521), (431, 3, 1522), (433, 4, 1523), (435, 5, 1524), (437, 6, 1525), (439, 7, 1526), (441, 8, 1527)],
  [(49, 14, 1470), (159, 15, 1451), (161, 1, 1462), (167, 16, 1464), (172, 17, 1465), (174, 18, 1466), (245, 25, 1544), (273, 19, 1534), (275, 20, 1535), (277, 21, 1536), (279, 22, 1537), (281, 23, 1538), (283, 24, 1539)],
  [(64, 28, 1427), (242, 26, 1384), (244, 15, 1385), (250, 14, 1389), (252, 27, 1390), (270, 25, 1408), (275, 9, 1409)],
  [(116, 30, 1007), (313, 29, 899), (370, 31, 1344), (372, 1, 1345)],
  [(54, 1, 1772), (56, 16, 1773), (58, 18, 1774), (71, 28, 1783), (73, 32, 1784), (104, 17, 1795), (106, 30, 1796), (114, 33, 1798), (141, 9, 1816)],
  [],
  [],
  [(71, 2, 990), (83, 30, 998), (129, 16, 1886), (131, 17, 1887), (136, 25, 1901), (155, 34, 1914), (157, 1, 1907), (159, 35, 1908), (164, 36, 1923), (166, 33, 1924), (210, 29, 1955), (218, 13, 1964)],
  [],
  [],
  [],
  [(72, 39, 2069), (99, 12, 1712), (143, 40, 2099), (192, 37, 1698), (202, 38, 1717), (214, 11, 1707), (222, 17, 1596), (250, 16, 1668), (323, 25, 1610), (334, 2, 1629), (348, 1, 1639), (389, 33, 1664), (401, 30, 2027), (424, 15, 2026)],
  [(302, 25, 2620), (307, 1, 2637), (309, 35, 2901), (311, 2, 2704), (335, 14, 2646), (337, 42, 2598), (339, 16, 2599), (341, 17, 2600), (351, 34, 2638), (360, 30, 2655), (362, 36, 2656), (364, 33, 2661), (389, 3, 2731), (391, 5, 2732), (393, 7, 2733), (395, 8, 2734), (397, 0, 2724), (399, 12, 2725), (401, 4, 2726), (403, 6, 2727), (429, 29, 2743), (457, 13, 2756), (459, 41, 2589), (583, 31, 2934), (668, 15, 2972), (684, 9, 2988), (699, 18, 2966), (701, 26, 2967), (707, 28, 2993), (728, 43, 3043), (730, 44, 3044), (754, 22, 3038), (756, 45, 3049), (758, 46, 3050), (760, 47, 3051), (808, 48, 3068), (902, 49, 3186), (922, 32, 3222)],
  [],
  [],
  [],
  [(75, 50, 3271)],
  [],
  [],
  [],
  []]
def pg_ll (oc : Nat) : List (Nat × Nat × Nat) := pg_llL.getD oc []
def pg_gsL : List (List (Nat × Nat × Nat)) := [
  [(397, 1, 1858)],
  [],
  [],
  [],
  [],
  [],
  [],
  [],
  [],
  [],
  [],
  [],
  [],
  [],
  [],
  [],
  [],
  [],
  [],
  [],
  []]
def pg_gs (oc : Nat) : List (Nat × Nat × Nat) := pg_gsL.getD oc []
def pg_ghL : List (List (Nat × Nat × Nat)) := [
  [],
  [(45, 2, 1468), (152, 3, 1441)],
  [(61, 5, 1370), (122, 4, 1020)],
  [],
  [(42, 3, 1767)],
  [],
  [],
  [(126, 3, 1885)],
  [],
  [],
  [],
  [(173, 1, 1691), (243, 3, 1666), (412, 6, 2024)],
  [],
  [],
  [],
  [],
  [],
  [],
  [],
  [],
  []]
def pg_gh (oc : Nat) : List (Nat × Nat × Nat) := pg_ghL.getD oc []
def pg_spL : List (List (Nat × Nat × Nat)) := [
  [(3, 9006, 36), (117, 9011, 1828), (128, 9012, 1839), (236, 9013, 2054)],
  [(3, 9006, 630)],
  [(3, 9006, 543), (145, 9002, 1040), (289, 9003, 1407)],
  [(3, 9006, 278), (275, 9003, 860)],
  [(3, 9006, 693), (108, 9004, 1797)],
  [(3, 9006, 165), (38, 9007, 374), (43, 9008, 384)],
  [(1, 9006, 157), (7, 9001, 158)],
  [(3, 9006, 76), (183, 9001, 1941), (188, 9002, 1942)],
  [(1, 9006, 287)],
  [(3, 9006, 510)],
  [(3, 9006, 44), (9, 9001, 45), (42, 9004, 1456), (52, 9005, 1485)],
  [(3, 9006, 656), (108, 9007, 2075), (114, 9008, 2076)],
  [(1, 9006, 2170)],
  [],
  [],
  [],
  [],
  [(65, 9011, 1282)],
  [],
  [],
  []]
def pg_sp (oc : Nat) : List (Nat × Nat × Nat) := pg_spL.getD oc []
def pg_okw (i : Nat) (w : Cond) : Bool := decide (pg_tb i = some w) && goodWord w
theorem pg_okw_in {i : Nat} {w : Cond} (h : pg_okw i w = true) : w ∈ pg_Ts := by
  simp only [pg_okw, Bool.and_eq_true, decide_eq_true_eq] at h
  exact pg_at h.1 h.2
def pg_okn (i : Nat) (w : Cond) : Bool := decide (pg_tb i = some w) && decide (i ∈ pg_nsx)
theorem pg_okn_in {i : Nat} {w : Cond} (h : pg_okn i w = true) : w ∈ pg_Ns := by
  simp only [pg_okn, Bool.and_eq_true, decide_eq_true_eq] at h
  exact List.mem_filterMap.mpr ⟨i, h.2, h.1⟩
def pg_cfk (oc : Nat) (z : Nat × Nat × Nat × Nat) : Bool := decide (z.2.1 < 16) && (decide (z.2.2.1 < pg_nf z.2.1) && pg_okw z.2.2.2 (.fieldLink (pg_cn oc) z.1 (pg_T z.2.1 z.2.2.1).1 (pg_T z.2.1 z.2.2.1).2.1 (pg_T z.2.1 z.2.2.1).2.2.1))
theorem pg_cfk_0 : ∀ z ∈ pg_fk 0, pg_cfk 0 z = true := by decide +kernel
theorem pg_cfk_1 : ∀ z ∈ pg_fk 1, pg_cfk 1 z = true := by decide +kernel
theorem pg_cfk_2 : ∀ z ∈ pg_fk 2, pg_cfk 2 z = true := by decide +kernel
theorem pg_cfk_3 : ∀ z ∈ pg_fk 3, pg_cfk 3 z = true := by decide +kernel
theorem pg_cfk_4 : ∀ z ∈ pg_fk 4, pg_cfk 4 z = true := by decide +kernel
theorem pg_cfk_5 : ∀ z ∈ pg_fk 5, pg_cfk 5 z = true := by decide +kernel
theorem pg_cfk_6 : ∀ z ∈ pg_fk 6, pg_cfk 6 z = true := by decide +kernel
theorem pg_cfk_7 : ∀ z ∈ pg_fk 7, pg_cfk 7 z = true := by decide +kernel
theorem pg_cfk_8 : ∀ z ∈ pg_fk 8, pg_cfk 8 z = true := by decide +kernel
theorem pg_cfk_9 : ∀ z ∈ pg_fk 9, pg_cfk 9 z = true := by decide +kernel
theorem pg_cfk_10 : ∀ z ∈ pg_fk 10, pg_cfk 10 z = true := by decide +kernel
theorem pg_cfk_11 : ∀ z ∈ pg_fk 11, pg_cfk 11 z = true := by decide +kernel
theorem pg_cfk_12 : ∀ z ∈ pg_fk 12, pg_cfk 12 z = true := by decide +kernel
theorem pg_cfk_13 : ∀ z ∈ pg_fk 13, pg_cfk 13 z = true := by decide +kernel
theorem pg_cfk_14 : ∀ z ∈ pg_fk 14, pg_cfk 14 z = true := by decide +kernel
theorem pg_cfk_15 : ∀ z ∈ pg_fk 15, pg_cfk 15 z = true := by decide +kernel
theorem pg_cfk_16 : ∀ z ∈ pg_fk 16, pg_cfk 16 z = true := by decide +kernel
theorem pg_cfk_17 : ∀ z ∈ pg_fk 17, pg_cfk 17 z = true := by decide +kernel
theorem pg_cfk_18 : ∀ z ∈ pg_fk 18, pg_cfk 18 z = true := by decide +kernel
theorem pg_cfk_19 : ∀ z ∈ pg_fk 19, pg_cfk 19 z = true := by decide +kernel
theorem pg_cfk_20 : ∀ z ∈ pg_fk 20, pg_cfk 20 z = true := by decide +kernel
theorem pg_cfk_ok : ∀ oc ∈ List.range 21, ∀ z ∈ pg_fk oc, pg_cfk oc z = true := by
  have h : ∀ oc ∈ [0, 1, 2, 3, 4, 5, 6, 7, 8, 9, 10, 11, 12, 13, 14, 15, 16, 17, 18, 19, 20], ∀ z ∈ pg_fk oc, pg_cfk oc z = true := by
    simp only [List.forall_mem_cons]
    exact ⟨pg_cfk_0, pg_cfk_1, pg_cfk_2, pg_cfk_3, pg_cfk_4, pg_cfk_5, pg_cfk_6, pg_cfk_7, pg_cfk_8, pg_cfk_9, pg_cfk_10, pg_cfk_11, pg_cfk_12, pg_cfk_13, pg_cfk_14, pg_cfk_15, pg_cfk_16, pg_cfk_17, pg_cfk_18, pg_cfk_19, pg_cfk_20, fun _ h => absurd h List.not_mem_nil⟩
  exact h
def pg_cmk (oc : Nat) (z : Nat × Nat × Nat) : Bool := pg_okw z.2.2 (.methodLink (pg_cn oc) z.1 (pg_mn z.2.1))
theorem pg_cmk_0 : ∀ z ∈ pg_mk 0, pg_cmk 0 z = true := by decide +kernel
theorem pg_cmk_1 : ∀ z ∈ pg_mk 1, pg_cmk 1 z = true := by decide +kernel
theorem pg_cmk_2 : ∀ z ∈ pg_mk 2, pg_cmk 2 z = true := by decide +kernel
theorem pg_cmk_3 : ∀ z ∈ pg_mk 3, pg_cmk 3 z = true := by decide +kernel
theorem pg_cmk_4 : ∀ z ∈ pg_mk 4, pg_cmk 4 z = true := by decide +kernel
theorem pg_cmk_5 : ∀ z ∈ pg_mk 5, pg_cmk 5 z = true := by decide +kernel
theorem pg_cmk_6 : ∀ z ∈ pg_mk 6, pg_cmk 6 z = true := by decide +kernel
theorem pg_cmk_7 : ∀ z ∈ pg_mk 7, pg_cmk 7 z = true := by decide +kernel
theorem pg_cmk_8 : ∀ z ∈ pg_mk 8, pg_cmk 8 z = true := by decide +kernel
theorem pg_cmk_9 : ∀ z ∈ pg_mk 9, pg_cmk 9 z = true := by decide +kernel
theorem pg_cmk_10 : ∀ z ∈ pg_mk 10, pg_cmk 10 z = true := by decide +kernel
theorem pg_cmk_11 : ∀ z ∈ pg_mk 11, pg_cmk 11 z = true := by decide +kernel
theorem pg_cmk_12 : ∀ z ∈ pg_mk 12, pg_cmk 12 z = true := by decide +kernel
theorem pg_cmk_13 : ∀ z ∈ pg_mk 13, pg_cmk 13 z = true := by decide +kernel
theorem pg_cmk_14 : ∀ z ∈ pg_mk 14, pg_cmk 14 z = true := by decide +kernel
theorem pg_cmk_15 : ∀ z ∈ pg_mk 15, pg_cmk 15 z = true := by decide +kernel
theorem pg_cmk_16 : ∀ z ∈ pg_mk 16, pg_cmk 16 z = true := by decide +kernel
theorem pg_cmk_17 : ∀ z ∈ pg_mk 17, pg_cmk 17 z = true := by decide +kernel
theorem pg_cmk_18 : ∀ z ∈ pg_mk 18, pg_cmk 18 z = true := by decide +kernel
theorem pg_cmk_19 : ∀ z ∈ pg_mk 19, pg_cmk 19 z = true := by decide +kernel
theorem pg_cmk_20 : ∀ z ∈ pg_mk 20, pg_cmk 20 z = true := by decide +kernel
theorem pg_cmk_ok : ∀ oc ∈ List.range 21, ∀ z ∈ pg_mk oc, pg_cmk oc z = true := by
  have h : ∀ oc ∈ [0, 1, 2, 3, 4, 5, 6, 7, 8, 9, 10, 11, 12, 13, 14, 15, 16, 17, 18, 19, 20], ∀ z ∈ pg_mk oc, pg_cmk oc z = true := by
    simp only [List.forall_mem_cons]
    exact ⟨pg_cmk_0, pg_cmk_1, pg_cmk_2, pg_cmk_3, pg_cmk_4, pg_cmk_5, pg_cmk_6, pg_cmk_7, pg_cmk_8, pg_cmk_9, pg_cmk_10, pg_cmk_11, pg_cmk_12, pg_cmk_13, pg_cmk_14, pg_cmk_15, pg_cmk_16, pg_cmk_17, pg_cmk_18, pg_cmk_19, pg_cmk_20, fun _ h => absurd h List.not_mem_nil⟩
  exact h
def pg_cmh (oc : Nat) (z : Nat × Nat × Nat) : Bool := pg_okn z.2.2 (.methodLinkNest (pg_cn oc) z.1 (pg_mn z.2.1) "LinkHouse")
theorem pg_cmh_0 : ∀ z ∈ pg_mh 0, pg_cmh 0 z = true := by decide +kernel
theorem pg_cmh_1 : ∀ z ∈ pg_mh 1, pg_cmh 1 z = true := by decide +kernel
theorem pg_cmh_2 : ∀ z ∈ pg_mh 2, pg_cmh 2 z = true := by decide +kernel
theorem pg_cmh_3 : ∀ z ∈ pg_mh 3, pg_cmh 3 z = true := by decide +kernel
theorem pg_cmh_4 : ∀ z ∈ pg_mh 4, pg_cmh 4 z = true := by decide +kernel
theorem pg_cmh_5 : ∀ z ∈ pg_mh 5, pg_cmh 5 z = true := by decide +kernel
theorem pg_cmh_6 : ∀ z ∈ pg_mh 6, pg_cmh 6 z = true := by decide +kernel
theorem pg_cmh_7 : ∀ z ∈ pg_mh 7, pg_cmh 7 z = true := by decide +kernel
theorem pg_cmh_8 : ∀ z ∈ pg_mh 8, pg_cmh 8 z = true := by decide +kernel
theorem pg_cmh_9 : ∀ z ∈ pg_mh 9, pg_cmh 9 z = true := by decide +kernel
theorem pg_cmh_10 : ∀ z ∈ pg_mh 10, pg_cmh 10 z = true := by decide +kernel
theorem pg_cmh_11 : ∀ z ∈ pg_mh 11, pg_cmh 11 z = true := by decide +kernel
theorem pg_cmh_12 : ∀ z ∈ pg_mh 12, pg_cmh 12 z = true := by decide +kernel
theorem pg_cmh_13 : ∀ z ∈ pg_mh 13, pg_cmh 13 z = true := by decide +kernel
theorem pg_cmh_14 : ∀ z ∈ pg_mh 14, pg_cmh 14 z = true := by decide +kernel
theorem pg_cmh_15 : ∀ z ∈ pg_mh 15, pg_cmh 15 z = true := by decide +kernel
theorem pg_cmh_16 : ∀ z ∈ pg_mh 16, pg_cmh 16 z = true := by decide +kernel
theorem pg_cmh_17 : ∀ z ∈ pg_mh 17, pg_cmh 17 z = true := by decide +kernel
theorem pg_cmh_18 : ∀ z ∈ pg_mh 18, pg_cmh 18 z = true := by decide +kernel
theorem pg_cmh_19 : ∀ z ∈ pg_mh 19, pg_cmh 19 z = true := by decide +kernel
theorem pg_cmh_20 : ∀ z ∈ pg_mh 20, pg_cmh 20 z = true := by decide +kernel
theorem pg_cmh_ok : ∀ oc ∈ List.range 21, ∀ z ∈ pg_mh oc, pg_cmh oc z = true := by
  have h : ∀ oc ∈ [0, 1, 2, 3, 4, 5, 6, 7, 8, 9, 10, 11, 12, 13, 14, 15, 16, 17, 18, 19, 20], ∀ z ∈ pg_mh oc, pg_cmh oc z = true := by
    simp only [List.forall_mem_cons]
    exact ⟨pg_cmh_0, pg_cmh_1, pg_cmh_2, pg_cmh_3, pg_cmh_4, pg_cmh_5, pg_cmh_6, pg_cmh_7, pg_cmh_8, pg_cmh_9, pg_cmh_10, pg_cmh_11, pg_cmh_12, pg_cmh_13, pg_cmh_14, pg_cmh_15, pg_cmh_16, pg_cmh_17, pg_cmh_18, pg_cmh_19, pg_cmh_20, fun _ h => absurd h List.not_mem_nil⟩
  exact h
def pg_cnw (oc : Nat) (z : Nat × Nat × Nat) : Bool := decide (z.2.1 < 16) && pg_okw z.2.2 (.classLink (pg_cn oc) z.1 (pg_cn z.2.1))
theorem pg_cnw_0 : ∀ z ∈ pg_nw 0, pg_cnw 0 z = true := by decide +kernel
theorem pg_cnw_1 : ∀ z ∈ pg_nw 1, pg_cnw 1 z = true := by decide +kernel
theorem pg_cnw_2 : ∀ z ∈ pg_nw 2, pg_cnw 2 z = true := by decide +kernel
theorem pg_cnw_3 : ∀ z ∈ pg_nw 3, pg_cnw 3 z = true := by decide +kernel
theorem pg_cnw_4 : ∀ z ∈ pg_nw 4, pg_cnw 4 z = true := by decide +kernel
theorem pg_cnw_5 : ∀ z ∈ pg_nw 5, pg_cnw 5 z = true := by decide +kernel
theorem pg_cnw_6 : ∀ z ∈ pg_nw 6, pg_cnw 6 z = true := by decide +kernel
theorem pg_cnw_7 : ∀ z ∈ pg_nw 7, pg_cnw 7 z = true := by decide +kernel
theorem pg_cnw_8 : ∀ z ∈ pg_nw 8, pg_cnw 8 z = true := by decide +kernel
theorem pg_cnw_9 : ∀ z ∈ pg_nw 9, pg_cnw 9 z = true := by decide +kernel
theorem pg_cnw_10 : ∀ z ∈ pg_nw 10, pg_cnw 10 z = true := by decide +kernel
theorem pg_cnw_11 : ∀ z ∈ pg_nw 11, pg_cnw 11 z = true := by decide +kernel
theorem pg_cnw_12 : ∀ z ∈ pg_nw 12, pg_cnw 12 z = true := by decide +kernel
theorem pg_cnw_13 : ∀ z ∈ pg_nw 13, pg_cnw 13 z = true := by decide +kernel
theorem pg_cnw_14 : ∀ z ∈ pg_nw 14, pg_cnw 14 z = true := by decide +kernel
theorem pg_cnw_15 : ∀ z ∈ pg_nw 15, pg_cnw 15 z = true := by decide +kernel
theorem pg_cnw_16 : ∀ z ∈ pg_nw 16, pg_cnw 16 z = true := by decide +kernel
theorem pg_cnw_17 : ∀ z ∈ pg_nw 17, pg_cnw 17 z = true := by decide +kernel
theorem pg_cnw_18 : ∀ z ∈ pg_nw 18, pg_cnw 18 z = true := by decide +kernel
theorem pg_cnw_19 : ∀ z ∈ pg_nw 19, pg_cnw 19 z = true := by decide +kernel
theorem pg_cnw_20 : ∀ z ∈ pg_nw 20, pg_cnw 20 z = true := by decide +kernel
theorem pg_cnw_ok : ∀ oc ∈ List.range 21, ∀ z ∈ pg_nw oc, pg_cnw oc z = true := by
  have h : ∀ oc ∈ [0, 1, 2, 3, 4, 5, 6, 7, 8, 9, 10, 11, 12, 13, 14, 15, 16, 17, 18, 19, 20], ∀ z ∈ pg_nw oc, pg_cnw oc z = true := by
    simp only [List.forall_mem_cons]
    exact ⟨pg_cnw_0, pg_cnw_1, pg_cnw_2, pg_cnw_3, pg_cnw_4, pg_cnw_5, pg_cnw_6, pg_cnw_7, pg_cnw_8, pg_cnw_9, pg_cnw_10, pg_cnw_11, pg_cnw_12, pg_cnw_13, pg_cnw_14, pg_cnw_15, pg_cnw_16, pg_cnw_17, pg_cnw_18, pg_cnw_19, pg_cnw_20, fun _ h => absurd h List.not_mem_nil⟩
  exact h
def pg_caq (oc : Nat) (z : Nat × Nat × Nat) : Bool := match pg_ty[z.2.1]? with
    | some (.object C) => decide (C ∈ pg_Ao) && pg_okw z.2.2 (.classLink (pg_cn oc) z.1 C)
    | _ => false
theorem pg_caq_0 : ∀ z ∈ pg_aq 0, pg_caq 0 z = true := by decide +kernel
theorem pg_caq_1 : ∀ z ∈ pg_aq 1, pg_caq 1 z = true := by decide +kernel
theorem pg_caq_2 : ∀ z ∈ pg_aq 2, pg_caq 2 z = true := by decide +kernel
theorem pg_caq_3 : ∀ z ∈ pg_aq 3, pg_caq 3 z = true := by decide +kernel
theorem pg_caq_4 : ∀ z ∈ pg_aq 4, pg_caq 4 z = true := by decide +kernel
theorem pg_caq_5 : ∀ z ∈ pg_aq 5, pg_caq 5 z = true := by decide +kernel
theorem pg_caq_6 : ∀ z ∈ pg_aq 6, pg_caq 6 z = true := by decide +kernel
theorem pg_caq_7 : ∀ z ∈ pg_aq 7, pg_caq 7 z = true := by decide +kernel
theorem pg_caq_8 : ∀ z ∈ pg_aq 8, pg_caq 8 z = true := by decide +kernel
theorem pg_caq_9 : ∀ z ∈ pg_aq 9, pg_caq 9 z = true := by decide +kernel
theorem pg_caq_10 : ∀ z ∈ pg_aq 10, pg_caq 10 z = true := by decide +kernel
theorem pg_caq_11 : ∀ z ∈ pg_aq 11, pg_caq 11 z = true := by decide +kernel
theorem pg_caq_12 : ∀ z ∈ pg_aq 12, pg_caq 12 z = true := by decide +kernel
theorem pg_caq_13 : ∀ z ∈ pg_aq 13, pg_caq 13 z = true := by decide +kernel
theorem pg_caq_14 : ∀ z ∈ pg_aq 14, pg_caq 14 z = true := by decide +kernel
theorem pg_caq_15 : ∀ z ∈ pg_aq 15, pg_caq 15 z = true := by decide +kernel
theorem pg_caq_16 : ∀ z ∈ pg_aq 16, pg_caq 16 z = true := by decide +kernel
theorem pg_caq_17 : ∀ z ∈ pg_aq 17, pg_caq 17 z = true := by decide +kernel
theorem pg_caq_18 : ∀ z ∈ pg_aq 18, pg_caq 18 z = true := by decide +kernel
theorem pg_caq_19 : ∀ z ∈ pg_aq 19, pg_caq 19 z = true := by decide +kernel
theorem pg_caq_20 : ∀ z ∈ pg_aq 20, pg_caq 20 z = true := by decide +kernel
theorem pg_caq_ok : ∀ oc ∈ List.range 21, ∀ z ∈ pg_aq oc, pg_caq oc z = true := by
  have h : ∀ oc ∈ [0, 1, 2, 3, 4, 5, 6, 7, 8, 9, 10, 11, 12, 13, 14, 15, 16, 17, 18, 19, 20], ∀ z ∈ pg_aq oc, pg_caq oc z = true := by
    simp only [List.forall_mem_cons]
    exact ⟨pg_caq_0, pg_caq_1, pg_caq_2, pg_caq_3, pg_caq_4, pg_caq_5, pg_caq_6, pg_caq_7, pg_caq_8, pg_caq_9, pg_caq_10, pg_caq_11, pg_caq_12, pg_caq_13, pg_caq_14, pg_caq_15, pg_caq_16, pg_caq_17, pg_caq_18, pg_caq_19, pg_caq_20, fun _ h => absurd h List.not_mem_nil⟩
  exact h
def pg_cli (oc : Nat) (z : Nat × Nat × Nat) : Bool := match pg_ki[z.2.1]? with
    | some v => pg_okw z.2.2 (.constant (pg_cn oc) z.1 v)
    | none => false
theorem pg_cli_0 : ∀ z ∈ pg_li 0, pg_cli 0 z = true := by decide +kernel
theorem pg_cli_1 : ∀ z ∈ pg_li 1, pg_cli 1 z = true := by decide +kernel
theorem pg_cli_2 : ∀ z ∈ pg_li 2, pg_cli 2 z = true := by decide +kernel
theorem pg_cli_3 : ∀ z ∈ pg_li 3, pg_cli 3 z = true := by decide +kernel
theorem pg_cli_4 : ∀ z ∈ pg_li 4, pg_cli 4 z = true := by decide +kernel
theorem pg_cli_5 : ∀ z ∈ pg_li 5, pg_cli 5 z = true := by decide +kernel
theorem pg_cli_6 : ∀ z ∈ pg_li 6, pg_cli 6 z = true := by decide +kernel
theorem pg_cli_7 : ∀ z ∈ pg_li 7, pg_cli 7 z = true := by decide +kernel
theorem pg_cli_8 : ∀ z ∈ pg_li 8, pg_cli 8 z = true := by decide +kernel
theorem pg_cli_9 : ∀ z ∈ pg_li 9, pg_cli 9 z = true := by decide +kernel
theorem pg_cli_10 : ∀ z ∈ pg_li 10, pg_cli 10 z = true := by decide +kernel
theorem pg_cli_11 : ∀ z ∈ pg_li 11, pg_cli 11 z = true := by decide +kernel
theorem pg_cli_12 : ∀ z ∈ pg_li 12, pg_cli 12 z = true := by decide +kernel
theorem pg_cli_13 : ∀ z ∈ pg_li 13, pg_cli 13 z = true := by decide +kernel
theorem pg_cli_14 : ∀ z ∈ pg_li 14, pg_cli 14 z = true := by decide +kernel
theorem pg_cli_15 : ∀ z ∈ pg_li 15, pg_cli 15 z = true := by decide +kernel
theorem pg_cli_16 : ∀ z ∈ pg_li 16, pg_cli 16 z = true := by decide +kernel
theorem pg_cli_17 : ∀ z ∈ pg_li 17, pg_cli 17 z = true := by decide +kernel
theorem pg_cli_18 : ∀ z ∈ pg_li 18, pg_cli 18 z = true := by decide +kernel
theorem pg_cli_19 : ∀ z ∈ pg_li 19, pg_cli 19 z = true := by decide +kernel
theorem pg_cli_20 : ∀ z ∈ pg_li 20, pg_cli 20 z = true := by decide +kernel
theorem pg_cli_ok : ∀ oc ∈ List.range 21, ∀ z ∈ pg_li oc, pg_cli oc z = true := by
  have h : ∀ oc ∈ [0, 1, 2, 3, 4, 5, 6, 7, 8, 9, 10, 11, 12, 13, 14, 15, 16, 17, 18, 19, 20], ∀ z ∈ pg_li oc, pg_cli oc z = true := by
    simp only [List.forall_mem_cons]
    exact ⟨pg_cli_0, pg_cli_1, pg_cli_2, pg_cli_3, pg_cli_4, pg_cli_5, pg_cli_6, pg_cli_7, pg_cli_8, pg_cli_9, pg_cli_10, pg_cli_11, pg_cli_12, pg_cli_13, pg_cli_14, pg_cli_15, pg_cli_16, pg_cli_17, pg_cli_18, pg_cli_19, pg_cli_20, fun _ h => absurd h List.not_mem_nil⟩
  exact h
def pg_cll (oc : Nat) (z : Nat × Nat × Nat) : Bool := match pg_kl[z.2.1]? with
    | some v => pg_okw z.2.2 (.constantLong (pg_cn oc) z.1 v)
    | none => false
theorem pg_cll_0 : ∀ z ∈ pg_ll 0, pg_cll 0 z = true := by decide +kernel
theorem pg_cll_1 : ∀ z ∈ pg_ll 1, pg_cll 1 z = true := by decide +kernel
theorem pg_cll_2 : ∀ z ∈ pg_ll 2, pg_cll 2 z = true := by decide +kernel
theorem pg_cll_3 : ∀ z ∈ pg_ll 3, pg_cll 3 z = true := by decide +kernel
theorem pg_cll_4 : ∀ z ∈ pg_ll 4, pg_cll 4 z = true := by decide +kernel
theorem pg_cll_5 : ∀ z ∈ pg_ll 5, pg_cll 5 z = true := by decide +kernel
theorem pg_cll_6 : ∀ z ∈ pg_ll 6, pg_cll 6 z = true := by decide +kernel
theorem pg_cll_7 : ∀ z ∈ pg_ll 7, pg_cll 7 z = true := by decide +kernel
theorem pg_cll_8 : ∀ z ∈ pg_ll 8, pg_cll 8 z = true := by decide +kernel
theorem pg_cll_9 : ∀ z ∈ pg_ll 9, pg_cll 9 z = true := by decide +kernel
theorem pg_cll_10 : ∀ z ∈ pg_ll 10, pg_cll 10 z = true := by decide +kernel
theorem pg_cll_11 : ∀ z ∈ pg_ll 11, pg_cll 11 z = true := by decide +kernel
theorem pg_cll_12 : ∀ z ∈ pg_ll 12, pg_cll 12 z = true := by decide +kernel
theorem pg_cll_13 : ∀ z ∈ pg_ll 13, pg_cll 13 z = true := by decide +kernel
theorem pg_cll_14 : ∀ z ∈ pg_ll 14, pg_cll 14 z = true := by decide +kernel
theorem pg_cll_15 : ∀ z ∈ pg_ll 15, pg_cll 15 z = true := by decide +kernel
theorem pg_cll_16 : ∀ z ∈ pg_ll 16, pg_cll 16 z = true := by decide +kernel
theorem pg_cll_17 : ∀ z ∈ pg_ll 17, pg_cll 17 z = true := by decide +kernel
theorem pg_cll_18 : ∀ z ∈ pg_ll 18, pg_cll 18 z = true := by decide +kernel
theorem pg_cll_19 : ∀ z ∈ pg_ll 19, pg_cll 19 z = true := by decide +kernel
theorem pg_cll_20 : ∀ z ∈ pg_ll 20, pg_cll 20 z = true := by decide +kernel
theorem pg_cll_ok : ∀ oc ∈ List.range 21, ∀ z ∈ pg_ll oc, pg_cll oc z = true := by
  have h : ∀ oc ∈ [0, 1, 2, 3, 4, 5, 6, 7, 8, 9, 10, 11, 12, 13, 14, 15, 16, 17, 18, 19, 20], ∀ z ∈ pg_ll oc, pg_cll oc z = true := by
    simp only [List.forall_mem_cons]
    exact ⟨pg_cll_0, pg_cll_1, pg_cll_2, pg_cll_3, pg_cll_4, pg_cll_5, pg_cll_6, pg_cll_7, pg_cll_8, pg_cll_9, pg_cll_10, pg_cll_11, pg_cll_12, pg_cll_13, pg_cll_14, pg_cll_15, pg_cll_16, pg_cll_17, pg_cll_18, pg_cll_19, pg_cll_20, fun _ h => absurd h List.not_mem_nil⟩
  exact h
def pg_cgs (oc : Nat) (z : Nat × Nat × Nat) : Bool := match pg_sf[z.2.1 - 1]? with
    | some f => decide (f.2.2.2 = z.2.1) && pg_okw z.2.2 (.fieldLink (pg_cn oc) z.1 f.1 f.2.1 f.2.2.1)
    | none => false
theorem pg_cgs_0 : ∀ z ∈ pg_gs 0, pg_cgs 0 z = true := by decide +kernel
theorem pg_cgs_1 : ∀ z ∈ pg_gs 1, pg_cgs 1 z = true := by decide +kernel
theorem pg_cgs_2 : ∀ z ∈ pg_gs 2, pg_cgs 2 z = true := by decide +kernel
theorem pg_cgs_3 : ∀ z ∈ pg_gs 3, pg_cgs 3 z = true := by decide +kernel
theorem pg_cgs_4 : ∀ z ∈ pg_gs 4, pg_cgs 4 z = true := by decide +kernel
theorem pg_cgs_5 : ∀ z ∈ pg_gs 5, pg_cgs 5 z = true := by decide +kernel
theorem pg_cgs_6 : ∀ z ∈ pg_gs 6, pg_cgs 6 z = true := by decide +kernel
theorem pg_cgs_7 : ∀ z ∈ pg_gs 7, pg_cgs 7 z = true := by decide +kernel
theorem pg_cgs_8 : ∀ z ∈ pg_gs 8, pg_cgs 8 z = true := by decide +kernel
theorem pg_cgs_9 : ∀ z ∈ pg_gs 9, pg_cgs 9 z = true := by decide +kernel
theorem pg_cgs_10 : ∀ z ∈ pg_gs 10, pg_cgs 10 z = true := by decide +kernel
theorem pg_cgs_11 : ∀ z ∈ pg_gs 11, pg_cgs 11 z = true := by decide +kernel
theorem pg_cgs_12 : ∀ z ∈ pg_gs 12, pg_cgs 12 z = true := by decide +kernel
theorem pg_cgs_13 : ∀ z ∈ pg_gs 13, pg_cgs 13 z = true := by decide +kernel
theorem pg_cgs_14 : ∀ z ∈ pg_gs 14, pg_cgs 14 z = true := by decide +kernel
theorem pg_cgs_15 : ∀ z ∈ pg_gs 15, pg_cgs 15 z = true := by decide +kernel
theorem pg_cgs_16 : ∀ z ∈ pg_gs 16, pg_cgs 16 z = true := by decide +kernel
theorem pg_cgs_17 : ∀ z ∈ pg_gs 17, pg_cgs 17 z = true := by decide +kernel
theorem pg_cgs_18 : ∀ z ∈ pg_gs 18, pg_cgs 18 z = true := by decide +kernel
theorem pg_cgs_19 : ∀ z ∈ pg_gs 19, pg_cgs 19 z = true := by decide +kernel
theorem pg_cgs_20 : ∀ z ∈ pg_gs 20, pg_cgs 20 z = true := by decide +kernel
theorem pg_cgs_ok : ∀ oc ∈ List.range 21, ∀ z ∈ pg_gs oc, pg_cgs oc z = true := by
  have h : ∀ oc ∈ [0, 1, 2, 3, 4, 5, 6, 7, 8, 9, 10, 11, 12, 13, 14, 15, 16, 17, 18, 19, 20], ∀ z ∈ pg_gs oc, pg_cgs oc z = true := by
    simp only [List.forall_mem_cons]
    exact ⟨pg_cgs_0, pg_cgs_1, pg_cgs_2, pg_cgs_3, pg_cgs_4, pg_cgs_5, pg_cgs_6, pg_cgs_7, pg_cgs_8, pg_cgs_9, pg_cgs_10, pg_cgs_11, pg_cgs_12, pg_cgs_13, pg_cgs_14, pg_cgs_15, pg_cgs_16, pg_cgs_17, pg_cgs_18, pg_cgs_19, pg_cgs_20, fun _ h => absurd h List.not_mem_nil⟩
  exact h
def pg_cgh (oc : Nat) (z : Nat × Nat × Nat) : Bool := match pg_sf[z.2.1 - 1]? with
    | some f => decide (f.2.2.2 = z.2.1) && pg_okn z.2.2 (.fieldLinkNest (pg_cn oc) z.1 f.1 f.2.1 f.2.2.1 "LinkHouse")
    | none => false
theorem pg_cgh_0 : ∀ z ∈ pg_gh 0, pg_cgh 0 z = true := by decide +kernel
theorem pg_cgh_1 : ∀ z ∈ pg_gh 1, pg_cgh 1 z = true := by decide +kernel
theorem pg_cgh_2 : ∀ z ∈ pg_gh 2, pg_cgh 2 z = true := by decide +kernel
theorem pg_cgh_3 : ∀ z ∈ pg_gh 3, pg_cgh 3 z = true := by decide +kernel
theorem pg_cgh_4 : ∀ z ∈ pg_gh 4, pg_cgh 4 z = true := by decide +kernel
theorem pg_cgh_5 : ∀ z ∈ pg_gh 5, pg_cgh 5 z = true := by decide +kernel
theorem pg_cgh_6 : ∀ z ∈ pg_gh 6, pg_cgh 6 z = true := by decide +kernel
theorem pg_cgh_7 : ∀ z ∈ pg_gh 7, pg_cgh 7 z = true := by decide +kernel
theorem pg_cgh_8 : ∀ z ∈ pg_gh 8, pg_cgh 8 z = true := by decide +kernel
theorem pg_cgh_9 : ∀ z ∈ pg_gh 9, pg_cgh 9 z = true := by decide +kernel
theorem pg_cgh_10 : ∀ z ∈ pg_gh 10, pg_cgh 10 z = true := by decide +kernel
theorem pg_cgh_11 : ∀ z ∈ pg_gh 11, pg_cgh 11 z = true := by decide +kernel
theorem pg_cgh_12 : ∀ z ∈ pg_gh 12, pg_cgh 12 z = true := by decide +kernel
theorem pg_cgh_13 : ∀ z ∈ pg_gh 13, pg_cgh 13 z = true := by decide +kernel
theorem pg_cgh_14 : ∀ z ∈ pg_gh 14, pg_cgh 14 z = true := by decide +kernel
theorem pg_cgh_15 : ∀ z ∈ pg_gh 15, pg_cgh 15 z = true := by decide +kernel
theorem pg_cgh_16 : ∀ z ∈ pg_gh 16, pg_cgh 16 z = true := by decide +kernel
theorem pg_cgh_17 : ∀ z ∈ pg_gh 17, pg_cgh 17 z = true := by decide +kernel
theorem pg_cgh_18 : ∀ z ∈ pg_gh 18, pg_cgh 18 z = true := by decide +kernel
theorem pg_cgh_19 : ∀ z ∈ pg_gh 19, pg_cgh 19 z = true := by decide +kernel
theorem pg_cgh_20 : ∀ z ∈ pg_gh 20, pg_cgh 20 z = true := by decide +kernel
theorem pg_cgh_ok : ∀ oc ∈ List.range 21, ∀ z ∈ pg_gh oc, pg_cgh oc z = true := by
  have h : ∀ oc ∈ [0, 1, 2, 3, 4, 5, 6, 7, 8, 9, 10, 11, 12, 13, 14, 15, 16, 17, 18, 19, 20], ∀ z ∈ pg_gh oc, pg_cgh oc z = true := by
    simp only [List.forall_mem_cons]
    exact ⟨pg_cgh_0, pg_cgh_1, pg_cgh_2, pg_cgh_3, pg_cgh_4, pg_cgh_5, pg_cgh_6, pg_cgh_7, pg_cgh_8, pg_cgh_9, pg_cgh_10, pg_cgh_11, pg_cgh_12, pg_cgh_13, pg_cgh_14, pg_cgh_15, pg_cgh_16, pg_cgh_17, pg_cgh_18, pg_cgh_19, pg_cgh_20, fun _ h => absurd h List.not_mem_nil⟩
  exact h
end
section
def pg_LL : List (List (List (Nat × Instr × Nat × Nat × Nat))) := List.replicate 25 []
def pg_L (mi : Nat) : List (Nat × Instr × Nat × Nat × Nat) := (pg_LL.getD (mi / 16) []).getD (mi % 16) []
def pg_cd (mi pc : Nat) : Option (Instr × Nat × Nat × Nat) := match (pg_L mi).find? (fun q => q.1 == pc) with
  | some q => some q.2
  | none => none
theorem pg_dall (mi : Nat) : ∀ q ∈ pg_L mi, decode (pg_by mi) q.1 = .ok (q.2.1, q.2.2.1 - q.1) := sorry
def pg_mf0 : List (Nat × Nat × Nat × Nat × Nat) := [(1, 2, 34, 0, 0), (1, 1, 797, 0, 798), (1, 1, 802, 1, 801), (1, 0, 1387, 0, 0), (1, 0, 1517, 0, 0), (1, 1, 1569, 0, 1570), (1, 1, 1671, 1, 1670), (1, 1, 1674, 0, 1675), (1, 1, 1678, 0, 1679), (1, 1, 1719, 0, 1720), (1, 0, 1727, 0, 0), (1, 1, 1760, 0, 1761), (1, 1, 1800, 0, 1801), (1, 1, 1809, 0, 1810), (1, 1, 1823, 0, 1824), (1, 1, 1850, 0, 1851)]
def pg_mf1 : List (Nat × Nat × Nat × Nat × Nat) := [(1, 1, 1856, 1, 1855), (1, 1, 1862, 1, 1861), (1, 1, 1866, 1, 1865), (1, 0, 1911, 0, 0), (1, 1, 1967, 1, 1966), (1, 1, 1973, 0, 1974), (1, 1, 1981, 0, 1982), (1, 1, 1986, 1, 1985), (1, 1, 1998, 0, 1999), (1, 1, 2006, 0, 2007), (1, 1, 2033, 0, 2034), (1, 1, 2038, 1, 2037), (1, 1, 2042, 1, 2041), (1, 1, 2081, 0, 2082), (1, 1, 2091, 0, 2092), (1, 1, 2104, 0, 2105)]
def pg_mf2 : List (Nat × Nat × Nat × Nat × Nat) := [(1, 1, 2111, 0, 2112), (1, 1, 2119, 0, 2120), (1, 1, 2127, 0, 2128), (1, 1, 2136, 0, 2137), (1, 1, 2144, 0, 2145), (1, 1, 2152, 0, 2153), (1, 1, 2158, 1, 2157), (15, 2, 628, 0, 0), (15, 1, 1429, 0, 1430), (15, 1, 1434, 1, 1433), (15, 1, 1473, 1, 1472), (15, 1, 1478, 1, 1477), (15, 1, 1504, 0, 1505), (15, 1, 1513, 1, 1512), (15, 1, 1531, 1, 1530), (15, 1, 1542, 1, 1541)]
def pg_mf3 : List (Nat × Nat × Nat × Nat × Nat) := [(15, 1, 1548, 1, 1547), (14, 2, 541, 0, 0), (14, 1, 1009, 0, 1010), (14, 1, 1014, 1, 1013), (14, 1, 1038, 1, 1037), (14, 1, 1337, 1, 1336), (14, 1, 1347, 0, 1348), (14, 1, 1353, 1, 1352), (14, 1, 1357, 1, 1356), (14, 1, 1363, 0, 1364), (14, 1, 1367, 0, 1368), (14, 0, 1374, 0, 0), (14, 1, 1378, 1, 1377), (14, 1, 1381, 0, 1382), (14, 1, 1393, 1, 1392), (14, 1, 1397, 1, 1396)]
def pg_mf4 : List (Nat × Nat × Nat × Nat × Nat) := [(14, 1, 1401, 1, 1400), (14, 1, 1405, 1, 1404), (14, 1, 1417, 1, 1416), (14, 1, 1421, 1, 1420), (14, 1, 1424, 0, 1425), (14, 1, 1487, 0, 1488), (14, 1, 1491, 0, 1492), (7, 2, 276, 0, 0), (7, 1, 805, 0, 806), (7, 1, 810, 1, 809), (7, 1, 830, 1, 829), (7, 1, 834, 1, 833), (7, 1, 838, 1, 837), (7, 1, 841, 0, 842), (7, 1, 873, 1, 872), (7, 1, 893, 1, 892)]
def pg_mf5 : List (Nat × Nat × Nat × Nat × Nat) := [(7, 1, 906, 0, 907), (7, 1, 911, 1, 910), (7, 1, 915, 1, 914), (7, 1, 923, 1, 922), (7, 1, 929, 1, 928), (7, 1, 933, 1, 932), (7, 0, 943, 0, 0), (7, 1, 952, 1, 951), (7, 1, 959, 1, 958), (7, 1, 963, 1, 962), (7, 1, 966, 0, 967), (7, 1, 971, 1, 970), (7, 1, 975, 1, 974), (7, 1, 979, 1, 978), (7, 1, 982, 0, 983), (7, 1, 1001, 1, 1000)]
def pg_mf6 : List (Nat × Nat × Nat × Nat × Nat) := [(7, 1, 1004, 0, 1005), (7, 1, 1330, 0, 1331), (7, 1, 1341, 0, 1342), (7, 1, 2161, 0, 2162), (17, 2, 691, 0, 0), (17, 1, 1723, 0, 1724), (17, 1, 1731, 0, 1732), (17, 1, 1735, 0, 1736), (17, 1, 1745, 1, 1744), (17, 1, 1754, 0, 1755), (17, 1, 1764, 0, 1765), (17, 0, 1781, 0, 0), (17, 1, 1786, 0, 1787), (17, 1, 1793, 1, 1792), (17, 1, 1804, 0, 1805), (17, 1, 1813, 0, 1814)]
def pg_mf7 : List (Nat × Nat × Nat × Nat × Nat) := [(6, 2, 163, 0, 0), (6, 1, 367, 0, 368), (6, 1, 371, 0, 372), (6, 1, 423, 0, 424), (6, 1, 825, 0, 826), (6, 1, 884, 0, 885), (6, 1, 946, 0, 947), (6, 1, 1564, 0, 1565), (6, 1, 1655, 0, 1656), (5, 2, 155, 0, 0), (5, 1, 813, 0, 814), (5, 1, 817, 0, 818), (5, 1, 821, 0, 822), (4, 2, 74, 0, 0), (4, 1, 845, 0, 846), (4, 1, 849, 0, 850)]
def pg_mf8 : List (Nat × Nat × Nat × Nat × Nat) := [(4, 1, 853, 0, 854), (4, 1, 857, 0, 858), (4, 1, 864, 0, 865), (4, 1, 868, 0, 869), (4, 1, 876, 0, 877), (4, 1, 880, 0, 881), (4, 1, 896, 0, 897), (4, 1, 902, 0, 903), (4, 1, 918, 0, 919), (4, 1, 936, 0, 937), (4, 1, 986, 0, 987), (4, 1, 994, 0, 995), (4, 1, 1496, 0, 1497), (4, 1, 1552, 0, 1553), (4, 1, 1604, 0, 1605), (4, 1, 1874, 0, 1875)]
def pg_mf9 : List (Nat × Nat × Nat × Nat × Nat) := [(4, 1, 1878, 0, 1879), (4, 1, 1883, 1, 1882), (4, 1, 1890, 1, 1889), (4, 1, 1893, 0, 1894), (4, 1, 1899, 1, 1898), (4, 0, 1905, 0, 0), (4, 1, 1917, 1, 1916), (4, 1, 1920, 0, 1921), (4, 1, 1927, 1, 1926), (4, 1, 1933, 1, 1932), (4, 1, 1939, 1, 1938), (4, 1, 1948, 1, 1947), (4, 1, 1953, 1, 1952), (4, 1, 1958, 1, 1957), (4, 1, 1962, 1, 1961), (8, 2, 285, 0, 0)]
def pg_mf10 : List (Nat × Nat × Nat × Nat × Nat) := [(13, 2, 508, 0, 0), (13, 1, 1017, 0, 1018), (13, 1, 1024, 0, 1025), (13, 1, 1030, 1, 1029), (13, 1, 1034, 1, 1033), (13, 1, 1411, 0, 1412), (2, 2, 42, 0, 0), (2, 1, 888, 0, 889), (2, 1, 1438, 0, 1439), (2, 1, 1444, 0, 1445), (2, 1, 1448, 0, 1449), (2, 1, 1453, 0, 1454), (2, 1, 1482, 0, 1483), (2, 1, 1500, 0, 1501), (2, 1, 1560, 0, 1561), (2, 1, 1703, 0, 1704)]
def pg_mf11 : List (Nat × Nat × Nat × Nat × Nat) := [(2, 1, 1709, 0, 1710), (2, 1, 1739, 0, 1740), (2, 1, 1749, 0, 1750), (2, 1, 1769, 0, 1770), (2, 1, 1776, 0, 1777), (2, 1, 2066, 0, 2067), (16, 2, 654, 0, 0), (16, 1, 1573, 0, 1574), (16, 1, 1578, 1, 1577), (16, 1, 1585, 1, 1584), (16, 1, 1592, 1, 1591), (16, 1, 1600, 1, 1599), (16, 0, 1608, 0, 0), (16, 1, 1614, 1, 1613), (16, 1, 1620, 1, 1619), (16, 1, 1625, 1, 1624)]
def pg_mf12 : List (Nat × Nat × Nat × Nat × Nat) := [(16, 1, 1633, 1, 1632), (16, 1, 1637, 1, 1636), (16, 1, 1642, 1, 1641), (16, 0, 1648, 0, 0), (16, 1, 1652, 1, 1651), (16, 1, 1662, 1, 1661), (16, 1, 1682, 0, 1683), (16, 0, 1686, 0, 0), (16, 1, 1696, 1, 1695), (16, 0, 1700, 0, 0), (16, 1, 1715, 1, 1714), (16, 1, 2011, 0, 2012), (16, 1, 2017, 1, 2016), (16, 1, 2022, 1, 2021), (16, 1, 2061, 0, 2062), (16, 0, 2071, 0, 0)]
def pg_mf13 : List (Nat × Nat × Nat × Nat × Nat) := [(16, 1, 2095, 0, 2096), (18, 2, 2168, 0, 0), (18, 1, 2566, 0, 2567), (18, 1, 2570, 0, 2571), (18, 1, 2575, 1, 2574), (18, 1, 2578, 0, 2579), (18, 1, 2583, 1, 2582), (18, 1, 2587, 1, 2586), (18, 1, 2592, 1, 2591), (18, 1, 2596, 1, 2595), (18, 1, 2603, 1, 2602), (18, 0, 2606, 0, 0), (18, 1, 2610, 1, 2609), (18, 1, 2614, 1, 2613), (18, 1, 2618, 1, 2617), (18, 1, 2623, 1, 2622)]
def pg_mf14 : List (Nat × Nat × Nat × Nat × Nat) := [(18, 1, 2627, 1, 2626), (18, 1, 2631, 1, 2630), (18, 1, 2635, 1, 2634), (18, 1, 2641, 1, 2640), (18, 0, 2644, 0, 0), (18, 1, 2649, 1, 2648), (18, 1, 2653, 1, 2652), (18, 1, 2659, 1, 2658), (18, 1, 2664, 1, 2663), (18, 1, 2668, 1, 2667), (18, 1, 2672, 1, 2671), (18, 1, 2676, 1, 2675), (18, 1, 2680, 1, 2679), (18, 1, 2686, 1, 2685), (18, 1, 2690, 1, 2689), (18, 1, 2694, 1, 2693)]
def pg_mf15 : List (Nat × Nat × Nat × Nat × Nat) := [(18, 1, 2698, 1, 2697), (18, 1, 2702, 1, 2701), (18, 1, 2707, 1, 2706), (18, 1, 2711, 1, 2710), (18, 1, 2715, 1, 2714), (18, 1, 2719, 1, 2718), (18, 0, 2722, 0, 0), (18, 0, 2729, 0, 0), (18, 1, 2737, 1, 2736), (18, 1, 2741, 1, 2740), (18, 1, 2746, 1, 2745), (18, 1, 2750, 1, 2749), (18, 1, 2754, 1, 2753), (18, 1, 2758, 0, 2759), (18, 1, 2762, 0, 2763), (18, 1, 2767, 1, 2766)]
def pg_mf16 : List (Nat × Nat × Nat × Nat × Nat) := [(18, 1, 2771, 1, 2770), (18, 1, 2774, 0, 2775), (18, 1, 2778, 0, 2779), (18, 1, 2782, 0, 2783), (18, 1, 2787, 1, 2786), (18, 1, 2791, 1, 2790), (18, 1, 2795, 1, 2794), (18, 1, 2799, 1, 2798), (18, 1, 2803, 1, 2802), (18, 1, 2807, 1, 2806), (18, 1, 2811, 1, 2810), (18, 1, 2815, 1, 2814), (18, 1, 2819, 1, 2818), (18, 1, 2823, 1, 2822), (18, 1, 2827, 1, 2826), (18, 1, 2831, 1, 2830)]
def pg_mf17 : List (Nat × Nat × Nat × Nat × Nat) := [(18, 1, 2835, 1, 2834), (18, 1, 2839, 1, 2838), (18, 1, 2843, 1, 2842), (18, 1, 2847, 1, 2846), (18, 1, 2851, 1, 2850), (18, 1, 2855, 1, 2854), (18, 1, 2859, 1, 2858), (18, 1, 2863, 1, 2862), (18, 1, 2867, 1, 2866), (18, 1, 2871, 1, 2870), (18, 1, 2875, 1, 2874), (18, 1, 2879, 1, 2878), (18, 1, 2883, 1, 2882), (18, 1, 2887, 1, 2886), (18, 1, 2891, 1, 2890), (18, 1, 2895, 1, 2894)]
def pg_mf18 : List (Nat × Nat × Nat × Nat × Nat) := [(18, 1, 2899, 1, 2898), (18, 1, 2904, 1, 2903), (18, 1, 2908, 1, 2907), (18, 1, 2912, 1, 2911), (18, 1, 2916, 1, 2915), (18, 1, 2920, 1, 2919), (18, 1, 2924, 1, 2923), (18, 1, 2928, 1, 2927), (18, 1, 2932, 1, 2931), (18, 1, 2937, 1, 2936), (18, 1, 2941, 1, 2940), (18, 1, 2945, 1, 2944), (18, 1, 2949, 1, 2948), (18, 1, 2953, 1, 2952), (18, 0, 2956, 0, 0), (18, 1, 2960, 1, 2959)]
def pg_mf19 : List (Nat × Nat × Nat × Nat × Nat) := [(18, 1, 2964, 1, 2963), (18, 1, 2970, 1, 2969), (18, 0, 2974, 0, 0), (18, 1, 2978, 1, 2977), (18, 1, 2982, 1, 2981), (18, 1, 2986, 1, 2985), (18, 1, 2991, 1, 2990), (18, 1, 2996, 1, 2995), (18, 1, 3000, 1, 2999), (18, 1, 3004, 1, 3003), (18, 1, 3008, 1, 3007), (18, 1, 3012, 1, 3011), (18, 1, 3016, 1, 3015), (18, 1, 3020, 1, 3019), (18, 1, 3024, 1, 3023), (18, 1, 3028, 1, 3027)]
def pg_mf20 : List (Nat × Nat × Nat × Nat × Nat) := [(18, 1, 3032, 1, 3031), (18, 1, 3036, 1, 3035), (18, 1, 3041, 1, 3040), (18, 1, 3047, 1, 3046), (18, 1, 3054, 1, 3053), (18, 1, 3057, 0, 3058), (18, 1, 3062, 1, 3061), (18, 1, 3066, 1, 3065), (18, 1, 3071, 1, 3070), (18, 1, 3074, 0, 3075), (18, 1, 3078, 0, 3079), (18, 1, 3082, 0, 3083), (18, 1, 3088, 1, 3087), (18, 1, 3092, 1, 3091), (18, 1, 3096, 1, 3095), (18, 1, 3100, 1, 3099)]
def pg_mf21 : List (Nat × Nat × Nat × Nat × Nat) := [(18, 1, 3104, 1, 3103), (18, 1, 3108, 1, 3107), (18, 1, 3112, 1, 3111), (18, 1, 3116, 1, 3115), (18, 1, 3120, 1, 3119), (18, 1, 3124, 1, 3123), (18, 1, 3128, 1, 3127), (18, 1, 3132, 1, 3131), (18, 1, 3136, 1, 3135), (18, 1, 3140, 1, 3139), (18, 1, 3144, 1, 3143), (18, 1, 3148, 1, 3147), (18, 1, 3152, 1, 3151), (18, 1, 3155, 0, 3156), (18, 1, 3160, 1, 3159), (18, 1, 3164, 1, 3163)]
def pg_mf22 : List (Nat × Nat × Nat × Nat × Nat) := [(18, 1, 3168, 1, 3167), (18, 1, 3172, 1, 3171), (18, 1, 3176, 1, 3175), (18, 1, 3179, 0, 3180), (18, 1, 3184, 1, 3183), (18, 1, 3189, 1, 3188), (18, 1, 3192, 0, 3193), (18, 0, 3196, 0, 0), (18, 1, 3200, 1, 3199), (18, 1, 3203, 0, 3204), (18, 1, 3208, 1, 3207), (18, 1, 3212, 1, 3211), (18, 1, 3216, 1, 3215), (18, 1, 3220, 1, 3219), (18, 1, 3225, 1, 3224), (18, 1, 3229, 1, 3228)]
def pg_mf23 : List (Nat × Nat × Nat × Nat × Nat) := [(18, 1, 3232, 0, 3233), (18, 1, 3237, 1, 3236), (18, 1, 3240, 0, 3241), (18, 1, 3244, 0, 3245), (18, 1, 3248, 0, 3249), (18, 1, 3252, 0, 3253), (18, 1, 3256, 0, 3257), (18, 1, 3260, 0, 3261), (18, 1, 3264, 0, 3265), (18, 1, 3268, 0, 3269), (25, 0, 1044, 0, 0), (25, 0, 1047, 0, 0), (25, 0, 1360, 0, 0), (25, 0, 1460, 0, 0), (0, 9, 0, 0, 0), (0, 9, 0, 0, 0)]
def pg_mf24 : List (Nat × Nat × Nat × Nat × Nat) := [(0, 9, 0, 0, 0), (0, 9, 0, 0, 0), (0, 9, 0, 0, 0), (0, 9, 0, 0, 0), (0, 9, 0, 0, 0), (0, 9, 0, 0, 0), (0, 9, 0, 0, 0), (0, 9, 0, 0, 0), (0, 9, 0, 0, 0), (0, 9, 0, 0, 0), (0, 9, 0, 0, 0), (0, 9, 0, 0, 0), (0, 9, 0, 0, 0), (0, 9, 0, 0, 0), (0, 9, 0, 0, 0)]
def pg_mfL : List (List (Nat × Nat × Nat × Nat × Nat)) := [pg_mf0, pg_mf1, pg_mf2, pg_mf3, pg_mf4, pg_mf5, pg_mf6, pg_mf7, pg_mf8, pg_mf9, pg_mf10, pg_mf11, pg_mf12, pg_mf13, pg_mf14, pg_mf15, pg_mf16, pg_mf17, pg_mf18, pg_mf19, pg_mf20, pg_mf21, pg_mf22, pg_mf23, pg_mf24]
def pg_mf (mi : Nat) : Nat × Nat × Nat × Nat × Nat := (pg_mfL.getD (mi / 16) []).getD (mi % 16) (0, 9, 0, 0, 0)
def pg_mck (mj : Nat) : Bool :=
  pg_okw (pg_mf mj).1 (.initialized (pg_mn mj).cls) && (plainName (pg_mn mj).cls && (decide (pg_ml mj ≤ 45) && (decide ((pg_mn mj).cls ≠ "java/lang/invoke/MethodHandle") && (decide ((pg_mn mj).cls ≠ "java/lang/invoke/VarHandle") && (decide ((parseMethodDescriptor (pg_mn mj).desc).map (fun d => d.parameters.length) = some (pg_np mj)) && (match (pg_mf mj).2.1 with
  | 0 => pg_okw (pg_mf mj).2.2.1 (.static (pg_mn mj))
  | 1 => pg_okw (pg_mf mj).2.2.1 (.instanceMethod (pg_mn mj)) && (match (pg_mf mj).2.2.2.1 with
    | 0 => pg_okw (pg_mf mj).2.2.2.2 (.selects (pg_mn mj).cls (pg_mn mj) (pg_mn mj))
    | _ => pg_okw (pg_mf mj).2.2.2.2 (.privateMethod (pg_mn mj)) && (decide (pg_oc mj < 16) && decide ((pg_mn mj).cls = pg_cn (pg_oc mj))))
  | 2 => pg_okw (pg_mf mj).2.2.1 (.instanceMethod (pg_mn mj)) && (decide (pg_rt mj = none) && decide ((pg_mn mj).name = "<init>"))
  | _ => true))))))
theorem pg_mall (m : Nat) (h : m < 382) : pg_mck m = true := sorry
theorem pg_wall (m : Nat) (h : m < 382) : ∃ ix, pg_tb ix = some (.code (pg_mn m) (pg_by m) (pg_ml m) (pg_rt m)) := sorry
def pg_ck (mi : Nat) (q : Nat × Instr × Nat × Nat × Nat) : Bool := match q.2.1 with
  | .getfield idx => (pg_fk (pg_oc mi)).any (fun z => z.1 == idx && (z.2.1 == q.2.2.2.1 && z.2.2.1 == q.2.2.2.2))
  | .putfield idx => (pg_fk (pg_oc mi)).any (fun z => z.1 == idx && (z.2.1 == q.2.2.2.1 && z.2.2.1 == q.2.2.2.2)) && (!((pg_T q.2.2.2.1 q.2.2.2.2).2.2.2) || (decide ((pg_mn mi).name = "<init>") && decide ((pg_T q.2.2.2.1 q.2.2.2.2).1 = (pg_mn mi).cls)))
  | .new idx => decide (16 ≤ q.2.2.2.1) || (pg_nw (pg_oc mi)).any (fun z => z.1 == idx && z.2.1 == q.2.2.2.1)
  | .anewarray idx => (pg_aq (pg_oc mi)).any (fun z => z.1 == idx && z.2.1 == q.2.2.2.1)
  | .newarray a => decide (pg_ty[q.2.2.2.1]? = some (newarray.typeOf a))
  | .ldc idx => decide (q.2.2.2.2 = 1) || (pg_li (pg_oc mi)).any (fun z => z.1 == idx && z.2.1 == q.2.2.2.1)
  | .ldc_w idx => decide (q.2.2.2.2 = 1) || (pg_li (pg_oc mi)).any (fun z => z.1 == idx && z.2.1 == q.2.2.2.1)
  | .ldc2_w idx => (pg_ll (pg_oc mi)).any (fun z => z.1 == idx && z.2.1 == q.2.2.2.1)
  | .getstatic idx => (pg_gs (pg_oc mi)).any (fun z => z.1 == idx && z.2.1 == q.2.2.2.1) || (pg_gh (pg_oc mi)).any (fun z => z.1 == idx && z.2.1 == q.2.2.2.1)
  | .invokestatic idx => decide (382 ≤ q.2.2.2.1) || (decide ((pg_mf q.2.2.2.1).2.1 = 0) && ((pg_mk (pg_oc mi)).any (fun z => z.1 == idx && z.2.1 == q.2.2.2.1) || (pg_mh (pg_oc mi)).any (fun z => z.1 == idx && z.2.1 == q.2.2.2.1)))
  | .invokevirtual idx => decide (382 ≤ q.2.2.2.1) || (decide ((pg_mf q.2.2.2.1).2.1 = 1) && ((pg_mk (pg_oc mi)).any (fun z => z.1 == idx && z.2.1 == q.2.2.2.1) || (pg_mh (pg_oc mi)).any (fun z => z.1 == idx && z.2.1 == q.2.2.2.1)))
  | .invokespecial idx => decide (382 ≤ q.2.2.2.1) || (decide ((pg_mf q.2.2.2.1).2.1 = 2) && ((pg_mk (pg_oc mi)).any (fun z => z.1 == idx && z.2.1 == q.2.2.2.1) || (pg_mh (pg_oc mi)).any (fun z => z.1 == idx && z.2.1 == q.2.2.2.1)))
  | _ => true
theorem pg_kall (mi : Nat) : ∀ q ∈ pg_L mi, pg_ck mi q = true := sorry
end
section
/-! what the tables say at an instruction -/
theorem pg_ent {mi pc : Nat} {i : Instr} {nx r1 r2 : Nat} (h : pg_cd mi pc = some (i, nx, r1, r2)) : (pc, i, nx, r1, r2) ∈ pg_L mi := by
  unfold pg_cd at h
  split at h
  next q hq =>
    have h1 := List.mem_of_find?_eq_some hq
    have h2 := List.find?_some hq
    simp only [beq_iff_eq] at h2
    obtain ⟨a, b⟩ := q
    simp only [Option.some.injEq] at h
    subst h
    simp only at h2
    subst h2
    exact h1
  next => cases h
theorem pg_dec {mi pc len : Nat} {i : Instr} {r1 r2 : Nat} (h : pg_cd mi pc = some (i, pc + len, r1, r2)) : decode (pg_by mi) pc = .ok (i, len) := by
  have h1 := pg_dall mi _ (pg_ent h)
  simp only [Nat.add_sub_cancel_left] at h1
  exact h1
theorem pg_chk {mi pc : Nat} {i : Instr} {nx r1 r2 : Nat} (h : pg_cd mi pc = some (i, nx, r1, r2)) : pg_ck mi (pc, i, nx, r1, r2) = true := pg_kall mi _ (pg_ent h)
theorem pg_ocl (L : List (List (Nat × Nat × Nat × Nat))) (n oc : Nat) (hL : L.length ≤ n) {z : Nat × Nat × Nat × Nat} (h : z ∈ L.getD oc []) : oc ∈ List.range n := by
  rw [List.mem_range]
  by_cases hc : oc < n
  · exact hc
  · rw [List.getD_eq_getElem?_getD, List.getElem?_eq_none (by omega)] at h
    exact absurd h List.not_mem_nil
theorem pg_ocl3 (L : List (List (Nat × Nat × Nat))) (n oc : Nat) (hL : L.length ≤ n) {z : Nat × Nat × Nat} (h : z ∈ L.getD oc []) : oc ∈ List.range n := by
  rw [List.mem_range]
  by_cases hc : oc < n
  · exact hc
  · rw [List.getD_eq_getElem?_getD, List.getElem?_eq_none (by omega)] at h
    exact absurd h List.not_mem_nil
theorem pg_own (mi : Nat) (h : mi < 399) : (pg_mn mi).cls = pg_cn (pg_oc mi) := by
  have h1 : ∀ m ∈ List.range 399, (pg_mn m).cls = pg_cn (pg_oc m) := by decide +kernel
  exact h1 mi (List.mem_range.mpr h)
theorem pg_lt {mi pc : Nat} {i : Instr} {nx r1 r2 : Nat} (h : pg_cd mi pc = some (i, nx, r1, r2)) : mi < 399 := by
  have h1 := pg_ent h
  by_cases hc : mi < 399
  · exact hc
  · exfalso
    unfold pg_L at h1
    by_cases h2 : mi / 16 < 25
    · have e1 : mi / 16 = 25 - 1 := by omega
      have e2 : mi % 16 = 15 := by omega
      rw [e1, e2] at h1
      exact absurd h1 List.not_mem_nil
    · rw [List.getD_eq_getElem?_getD (l := pg_LL), List.getElem?_eq_none (show pg_LL.length ≤ mi / 16 by show 25 ≤ _; omega)] at h1
      exact absurd h1 List.not_mem_nil
theorem pg_fld0 {mi idx ci k : Nat} (hm : mi < 399) (h : (pg_fk (pg_oc mi)).any (fun z => z.1 == idx && (z.2.1 == ci && z.2.2.1 == k)) = true) : ci < 16 ∧ k < pg_nf ci ∧ Cond.fieldLink (pg_mn mi).cls idx (pg_T ci k).1 (pg_T ci k).2.1 (pg_T ci k).2.2.1 ∈ pg_Ts := by
  obtain ⟨z, hz, hq⟩ := List.any_eq_true.mp h
  simp only [Bool.and_eq_true, beq_iff_eq] at hq
  obtain ⟨rfl, rfl, rfl⟩ := hq
  have h1 := pg_cfk_ok (pg_oc mi) (pg_ocl pg_fkL 21 _ (by decide) hz) z hz
  simp only [pg_cfk, Bool.and_eq_true, decide_eq_true_eq] at h1
  rw [pg_own mi hm]
  exact ⟨h1.1, h1.2.1, pg_okw_in h1.2.2⟩
theorem pg_fld {mi pc idx nx ci k : Nat} (h : pg_cd mi pc = some (.getfield idx, nx, ci, k)) : ∃ C T N, pg_cl[ci]? = some (C, T, N) ∧ k < N ∧ (∀ w ∈ u_ws C T N, w ∈ pg_Ts) ∧ Cond.fieldLink (pg_mn mi).cls idx (T k).1 (T k).2.1 (T k).2.2.1 ∈ pg_Ts := by
  obtain ⟨h1, h2, h3⟩ := pg_fld0 (pg_lt h) (pg_chk h)
  exact ⟨_, _, _, pg_clb h1, h2, pg_cin (pg_clb h1), h3⟩
theorem pg_fldp {mi pc idx nx ci k : Nat} (h : pg_cd mi pc = some (.putfield idx, nx, ci, k)) : ∃ C T N, pg_cl[ci]? = some (C, T, N) ∧ k < N ∧ (∀ w ∈ u_ws C T N, w ∈ pg_Ts) ∧ Cond.fieldLink (pg_mn mi).cls idx (T k).1 (T k).2.1 (T k).2.2.1 ∈ pg_Ts ∧ ((T k).2.2.2 = true → (pg_mn mi).name = "<init>" ∧ (T k).1 = (pg_mn mi).cls) := by
  have h0 := pg_chk h
  simp only [pg_ck, Bool.and_eq_true] at h0
  obtain ⟨h1, h2, h3⟩ := pg_fld0 (pg_lt h) h0.1
  refine ⟨_, _, _, pg_clb h1, h2, pg_cin (pg_clb h1), h3, fun hf => ?_⟩
  have h4 := h0.2
  rw [hf] at h4
  simpa using h4
theorem pg_new {mi pc idx nx ci r2 : Nat} {C : String} {T : u_T} {N : Nat} (h : pg_cd mi pc = some (.new idx, nx, ci, r2)) (hc : pg_cl[ci]? = some (C, T, N)) : Cond.classLink (pg_mn mi).cls idx C ∈ pg_Ts ∧ Cond.instantiable C (pg_in ci) ∈ pg_Ts ∧ Cond.initialized C ∈ pg_Ts := by
  have h0 := pg_chk h
  obtain ⟨hlt, rfl, rfl, rfl⟩ := pg_cla hc
  simp only [pg_ck, Bool.or_eq_true, decide_eq_true_eq] at h0
  rcases h0 with h0 | h0
  · omega
  · obtain ⟨z, hz, hq⟩ := List.any_eq_true.mp h0
    simp only [Bool.and_eq_true, beq_iff_eq] at hq
    obtain ⟨rfl, rfl⟩ := hq
    have h1 := pg_cnw_ok (pg_oc mi) (pg_ocl3 pg_nwL 21 _ (by decide) hz) z hz
    simp only [pg_cnw, Bool.and_eq_true, decide_eq_true_eq] at h1
    rw [pg_own mi (pg_lt h)]
    exact ⟨pg_okw_in h1.2, pg_cii hlt⟩
theorem pg_arrw : pg_okw 68 (.arrayClass .byte) = true ∧ pg_okw 255 (.arrayClass .int) = true ∧ pg_okw 624 (.arrayClass .long) = true ∧ pg_okw 623 (.arrayClass .boolean) = true := by decide +kernel
theorem pg_arr {mi pc nx t r2 : Nat} {a : ArrayType} (h : pg_cd mi pc = some (.newarray a, nx, t, r2)) : Cond.arrayClass (newarray.typeOf a) ∈ pg_Ts := by
  have h0 := pg_chk h
  simp only [pg_ck, decide_eq_true_eq] at h0
  obtain ⟨h1, h2, h3, h4⟩ := pg_arrw
  cases a
  · exact pg_okw_in h4
  all_goals first
    | exact pg_okw_in h1
    | exact pg_okw_in h2
    | exact pg_okw_in h3
    | (exfalso
       have h5 := List.mem_of_getElem? h0
       revert h5
       decide)
theorem pg_arrq {mi pc idx nx t r2 : Nat} {C : String} (h : pg_cd mi pc = some (.anewarray idx, nx, t, r2)) (ht : pg_ty[t]? = some (.object C)) : Cond.classLink (pg_mn mi).cls idx C ∈ pg_Ts ∧ C ∈ pg_Ao := by
  have h0 := pg_chk h
  simp only [pg_ck] at h0
  obtain ⟨z, hz, hq⟩ := List.any_eq_true.mp h0
  simp only [Bool.and_eq_true, beq_iff_eq] at hq
  obtain ⟨rfl, rfl⟩ := hq
  have h1 := pg_caq_ok (pg_oc mi) (pg_ocl3 pg_aqL 21 _ (by decide) hz) z hz
  unfold pg_caq at h1
  rw [ht] at h1
  simp only [Bool.and_eq_true, decide_eq_true_eq] at h1
  rw [pg_own mi (pg_lt h)]
  exact ⟨pg_okw_in h1.2, h1.1⟩
theorem pg_ldc {mi pc idx nx r1 r2 : Nat} {v : Int32} (h : pg_cd mi pc = some (.ldc idx, nx, r1, r2)) (h2 : ¬ r2 = 1) (hv : pg_ki[r1]? = some v) : Cond.constant (pg_mn mi).cls idx v ∈ pg_Ts := by
  have h0 := pg_chk h
  simp only [pg_ck, Bool.or_eq_true, decide_eq_true_eq] at h0
  obtain ⟨z, hz, hq⟩ := List.any_eq_true.mp (h0.resolve_left h2)
  simp only [Bool.and_eq_true, beq_iff_eq] at hq
  obtain ⟨rfl, rfl⟩ := hq
  have h1 := pg_cli_ok (pg_oc mi) (pg_ocl3 pg_liL 21 _ (by decide) hz) z hz
  unfold pg_cli at h1
  rw [hv] at h1
  rw [pg_own mi (pg_lt h)]
  exact pg_okw_in h1
theorem pg_ldcw {mi pc idx nx r1 r2 : Nat} {v : Int32} (h : pg_cd mi pc = some (.ldc_w idx, nx, r1, r2)) (h2 : ¬ r2 = 1) (hv : pg_ki[r1]? = some v) : Cond.constant (pg_mn mi).cls idx v ∈ pg_Ts := by
  have h0 := pg_chk h
  simp only [pg_ck, Bool.or_eq_true, decide_eq_true_eq] at h0
  obtain ⟨z, hz, hq⟩ := List.any_eq_true.mp (h0.resolve_left h2)
  simp only [Bool.and_eq_true, beq_iff_eq] at hq
  obtain ⟨rfl, rfl⟩ := hq
  have h1 := pg_cli_ok (pg_oc mi) (pg_ocl3 pg_liL 21 _ (by decide) hz) z hz
  unfold pg_cli at h1
  rw [hv] at h1
  rw [pg_own mi (pg_lt h)]
  exact pg_okw_in h1
theorem pg_ldc2 {mi pc idx nx r1 r2 : Nat} {v : Int64} (h : pg_cd mi pc = some (.ldc2_w idx, nx, r1, r2)) (hv : pg_kl[r1]? = some v) : Cond.constantLong (pg_mn mi).cls idx v ∈ pg_Ts := by
  have h0 := pg_chk h
  simp only [pg_ck] at h0
  obtain ⟨z, hz, hq⟩ := List.any_eq_true.mp h0
  simp only [Bool.and_eq_true, beq_iff_eq] at hq
  obtain ⟨rfl, rfl⟩ := hq
  have h1 := pg_cll_ok (pg_oc mi) (pg_ocl3 pg_llL 21 _ (by decide) hz) z hz
  unfold pg_cll at h1
  rw [hv] at h1
  rw [pg_own mi (pg_lt h)]
  exact pg_okw_in h1
theorem pg_gst {mi pc idx nx j r2 : Nat} (h : pg_cd mi pc = some (.getstatic idx, nx, j, r2)) : ∃ C n d, (C, n, d, j) ∈ pg_sf ∧ (Cond.fieldLink (pg_mn mi).cls idx C n d ∈ pg_Ts ∨ ∃ host, Cond.fieldLinkNest (pg_mn mi).cls idx C n d host ∈ pg_Ns) := by
  have h0 := pg_chk h
  simp only [pg_ck, Bool.or_eq_true] at h0
  rw [pg_own mi (pg_lt h)]
  rcases h0 with h0 | h0
  · obtain ⟨z, hz, hq⟩ := List.any_eq_true.mp h0
    simp only [Bool.and_eq_true, beq_iff_eq] at hq
    obtain ⟨rfl, rfl⟩ := hq
    have h1 := pg_cgs_ok (pg_oc mi) (pg_ocl3 pg_gsL 21 _ (by decide) hz) z hz
    unfold pg_cgs at h1
    split at h1
    next f hf =>
      simp only [Bool.and_eq_true, decide_eq_true_eq] at h1
      exact ⟨f.1, f.2.1, f.2.2.1, by rw [← h1.1]; exact List.mem_of_getElem? hf, Or.inl (pg_okw_in h1.2)⟩
    next => cases h1
  · obtain ⟨z, hz, hq⟩ := List.any_eq_true.mp h0
    simp only [Bool.and_eq_true, beq_iff_eq] at hq
    obtain ⟨rfl, rfl⟩ := hq
    have h1 := pg_cgh_ok (pg_oc mi) (pg_ocl3 pg_ghL 21 _ (by decide) hz) z hz
    unfold pg_cgh at h1
    split at h1
    next f hf =>
      simp only [Bool.and_eq_true, decide_eq_true_eq] at h1
      exact ⟨f.1, f.2.1, f.2.2.1, by rw [← h1.1]; exact List.mem_of_getElem? hf, Or.inr ⟨_, pg_okn_in h1.2⟩⟩
    next => cases h1
/-- what the tables must say of a callee -/
def px_M (mj : Nat) : Prop := Cond.code (pg_mn mj) (pg_by mj) (pg_ml mj) (pg_rt mj) ∈ pg_Ts ∧ Cond.initialized (pg_mn mj).cls ∈ pg_Ts ∧ plainName (pg_mn mj).cls = true ∧ pg_ml mj ≤ 45 ∧ ((pg_mn mj).cls ≠ "java/lang/invoke/MethodHandle" ∧ (pg_mn mj).cls ≠ "java/lang/invoke/VarHandle") ∧ (parseMethodDescriptor (pg_mn mj).desc).map (fun d => d.parameters.length) = some (pg_np mj)
/-- a method's link, from its own class or from a nest mate -/
def px_lk (mi idx mj : Nat) : Prop := Cond.methodLink (pg_mn mi).cls idx (pg_mn mj) ∈ pg_Ts ∨ ∃ host, Cond.methodLinkNest (pg_mn mi).cls idx (pg_mn mj) host ∈ pg_Ns
def pg_ivs (mi idx mj : Nat) : Prop := px_M mj ∧ Cond.static (pg_mn mj) ∈ pg_Ts ∧ px_lk mi idx mj
def pg_ivv (mi idx mj : Nat) : Prop := px_M mj ∧ Cond.instanceMethod (pg_mn mj) ∈ pg_Ts ∧ (∀ (args : Array Value) (s : State), (∀ w ∈ pg_Ts, w.before args s = true) → (Cond.selects (pg_mn mj).cls (pg_mn mj) (pg_mn mj)).before args s = true) ∧ px_lk mi idx mj
def pg_ivi (mi idx mj : Nat) : Prop := px_M mj ∧ pg_rt mj = none ∧ (pg_mn mj).name = "<init>" ∧ Cond.instanceMethod (pg_mn mj) ∈ pg_Ts ∧ px_lk mi idx mj
theorem pg_Mok (mj : Nat) (h : mj < 382) : px_M mj := by
  have h1 := pg_mall mj h
  obtain ⟨ix, h2⟩ := pg_wall mj h
  simp only [pg_mck, Bool.and_eq_true, decide_eq_true_eq] at h1
  exact ⟨pg_at h2 rfl, pg_okw_in h1.1, h1.2.1, h1.2.2.1, ⟨h1.2.2.2.1, h1.2.2.2.2.1⟩, h1.2.2.2.2.2.1⟩
theorem pg_lk0 {mi idx mj : Nat} (hm : mi < 399) (h : (pg_mk (pg_oc mi)).any (fun z => z.1 == idx && z.2.1 == mj) = true ∨ (pg_mh (pg_oc mi)).any (fun z => z.1 == idx && z.2.1 == mj) = true) : px_lk mi idx mj := by
  unfold px_lk
  rw [pg_own mi hm]
  rcases h with h | h
  · obtain ⟨z, hz, hq⟩ := List.any_eq_true.mp h
    simp only [Bool.and_eq_true, beq_iff_eq] at hq
    obtain ⟨rfl, rfl⟩ := hq
    have h1 := pg_cmk_ok (pg_oc mi) (pg_ocl3 pg_mkL 21 _ (by decide) hz) z hz
    exact Or.inl (pg_okw_in h1)
  · obtain ⟨z, hz, hq⟩ := List.any_eq_true.mp h
    simp only [Bool.and_eq_true, beq_iff_eq] at hq
    obtain ⟨rfl, rfl⟩ := hq
    have h1 := pg_cmh_ok (pg_oc mi) (pg_ocl3 pg_mhL 21 _ (by decide) hz) z hz
    exact Or.inr ⟨_, pg_okn_in h1⟩
theorem pg_ivs_ok {mi pc idx nx mj r2 : Nat} (h : pg_cd mi pc = some (.invokestatic idx, nx, mj, r2)) (hj : Nat.blt mj 382 = true) : pg_ivs mi idx mj := by
  have hlt : mj < 382 := Nat.le_of_ble_eq_true hj
  have h0 := pg_chk h
  simp only [pg_ck, Bool.or_eq_true, Bool.and_eq_true, decide_eq_true_eq] at h0
  have h1 := h0.resolve_left (by omega)
  have h2 := pg_mall mj hlt
  simp only [pg_mck, Bool.and_eq_true, h1.1] at h2
  exact ⟨pg_Mok mj hlt, pg_okw_in h2.2.2.2.2.2.2, pg_lk0 (pg_lt h) h1.2⟩
theorem pg_ivi_ok {mi pc idx nx mj r2 : Nat} (h : pg_cd mi pc = some (.invokespecial idx, nx, mj, r2)) (hj : Nat.blt mj 382 = true) : pg_ivi mi idx mj := by
  have hlt : mj < 382 := Nat.le_of_ble_eq_true hj
  have h0 := pg_chk h
  simp only [pg_ck, Bool.or_eq_true, Bool.and_eq_true, decide_eq_true_eq] at h0
  have h1 := h0.resolve_left (by omega)
  have h2 := pg_mall mj hlt
  simp only [pg_mck, Bool.and_eq_true, h1.1, decide_eq_true_eq] at h2
  have h3 := h2.2.2.2.2.2.2
  exact ⟨pg_Mok mj hlt, h3.2.1, h3.2.2, pg_okw_in h3.1, pg_lk0 (pg_lt h) h1.2⟩
theorem pg_ivv_ok {mi pc idx nx mj r2 : Nat} (h : pg_cd mi pc = some (.invokevirtual idx, nx, mj, r2)) (hj : Nat.blt mj 382 = true) : pg_ivv mi idx mj := by
  have hlt : mj < 382 := Nat.le_of_ble_eq_true hj
  have h0 := pg_chk h
  simp only [pg_ck, Bool.or_eq_true, Bool.and_eq_true, decide_eq_true_eq] at h0
  have h1 := h0.resolve_left (by omega)
  have h2 := pg_mall mj hlt
  simp only [pg_mck, Bool.and_eq_true, h1.1] at h2
  have h3 := h2.2.2.2.2.2.2
  have hM := pg_Mok mj hlt
  refine ⟨hM, pg_okw_in h3.1, fun args s hts => ?_, pg_lk0 (pg_lt h) h1.2⟩
  have h4 := h3.2
  split at h4
  next => exact hts _ (pg_okw_in h4)
  next =>
    simp only [Bool.and_eq_true, decide_eq_true_eq] at h4
    have h5 := pg_cii h4.2.1
    rw [← h4.2.2] at h5
    exact k2_selects_private hM.2.2.2.2.1 (hts _ h5.1) (hts _ (pg_okw_in h4.1)) (hts _ (pg_okw_in h3.1))
end
section
/-! THE PURE MACHINE: values whose references are places (.ref k: the k-th cell made since the law began; .retAddr k: the k-th constant table), cells, locals; one judgement PW over the kit's W: from any heap that holds the cells ph, the method mi at pc, with locals lv and stack st, ends with Q. -/
abbrev px_PE : Type := (Nat × vp_A) ⊕ (Nat × List Value)
abbrev px_H : Type := List px_PE
/-- the locals, by places; px_u: nothing there -/
abbrev px_L : Type := List Value
abbrev px_u : Value := .float 0
/-- what is fixed for a run of the law: the classes' numbers and slots; the first new address; the constants' addresses; the array classes; the constants; the state at the law's entry -/
abbrev px_G : Type := (va_G × Nat × (Nat → Nat) × (Nat → ClassId) × (Nat → FieldType × Nat × (Nat → Int32))) × State
abbrev px_D (g : px_G) : va_G := g.1.1
abbrev px_b (g : px_G) : Nat := g.1.2.1
abbrev px_sa (g : px_G) : Nat → Nat := g.1.2.2.1
abbrev px_ca (g : px_G) : Nat → ClassId := g.1.2.2.2.1
abbrev px_ct (g : px_G) : Nat → FieldType × Nat × (Nat → Int32) := g.1.2.2.2.2
abbrev px_s0 (g : px_G) : State := g.2
def px_v (g : px_G) : Value → Value
  | .ref k => .ref (px_b g + k)
  | .retAddr k => .ref (px_sa g k)
  | .int x => .int x
  | .long x => .long x
  | .float x => .float x
  | .double x => .double x
  | .null => .null
def px_f (g : px_G) (f : Nat → Option Nat) : Nat → Option Nat := fun j => (f j).map (fun k => px_b g + k)
def px_a (g : px_G) (x : vp_A) : vp_A := (x.1, match x.2 with
  | .inl f => .inl f
  | .inr (.inl f) => .inr (.inl f)
  | .inr (.inr (.inl f)) => .inr (.inr (.inl f))
  | .inr (.inr (.inr (.inl f))) => .inr (.inr (.inr (.inl f)))
  | .inr (.inr (.inr (.inr f))) => .inr (.inr (.inr (.inr (px_f g f)))))
def px_e (g : px_G) : px_PE → va_E
  | .inl q => .inl (px_ca g q.1, px_a g q.2)
  | .inr q => .inr (q.1, q.2.map (px_v g))
def px_A (g : px_G) : Nat → Prop := fun q => px_b g ≤ q
def px_fl : Value → Bool
  | .float _ => true
  | _ => false
def px_lz (g : px_G) : Nat → px_L → List (Nat × Value)
  | _, [] => []
  | i, v :: r => if px_fl v = true then px_lz g (i + 1) r else (i, px_v g v) :: px_lz g (i + 1) r
def px_l (g : px_G) (lv : px_L) : List (Nat × Value) := px_lz g 0 lv
def px_tys (g : px_G) : List (ClassId × FieldType) := (List.range pg_ty.length).map (fun t => (px_ca g t, pg_ty.getD t .int))
def px_sz : px_PE → Nat
  | .inl q => q.2.1
  | .inr q => pg_in q.1
def px_sum (ph : px_H) : Nat := (ph.map px_sz).sum
def px_K (g : px_G) (U : State) : Prop := va_K (px_D g) pg_cl (px_tys g) U
def px_Z (g : px_G) (U : State) (H : Heap) : Prop :=
  (∀ j, j < pg_nc → va_T (px_ct g j).1 (px_sa g j) (px_ct g j).2.1 (fun i => .int ((px_ct g j).2.2 i)) (px_A g) U H) ∧ ∀ q ∈ pg_sf, va_Z q.1 q.2.1 q.2.2.1 (.ref (px_sa g q.2.2.2)) (px_A g) U H
def px_R (g : px_G) (ph : px_H) (H : Heap) : Prop := H.size = px_b g + ph.length ∧ ∀ (k : Nat) (e : px_PE), ph[k]? = some e → va_at (px_D g) pg_cl (px_b g + k, px_e g e) H
/-- words that are carried by themselves: links to private members of nest mates, arrays over classes -/
def px_W (s : State) : Prop := (∀ w ∈ pg_Ns, va_Nw w s) ∧ ∀ C ∈ pg_Ao, va_AO C s
theorem px_W.warm {s U : State} (hW : s.WarmedH U.vm) (h : px_W s) : px_W U := by
  refine ⟨fun w hw => ?_, fun C hC => va_AO.moved hW.alike (h.2 C hC)⟩
  have h1 := h.1 w hw
  rcases pg_nsf w hw with ⟨a, i, b, n, d, q, rfl⟩ | ⟨a, i, x, q, rfl⟩
  · exact va_Nw.warmF hW h1
  · exact va_Nw.warmM hW h1
/-- the old cells and the tables, since the law's entry -/
def px_B (g : px_G) (s : State) : Prop := (px_s0 g).WarmedH s.vm ∧ ∀ q : Nat, q < px_b g → s.heap[q]? = (px_s0 g).heap[q]?
/-- what holds of the walk of method mi, from its entry on -/
def px_C (g : px_G) (d mi : Nat) (p : Program) (R : Room) (s : State) (m : MethodId) (args : Array Value) (meth : Method) (c : Code) : Prop :=
  p.tables.exec = Jvm.exec ∧ c.code = pg_by mi ∧ c.maxLocals = pg_ml mi ∧ meth.sig.returnType = pg_rt mi ∧ s.vm.findClass (pg_mn mi).cls = some m.cls ∧ (∀ w ∈ pg_Ts, w.before args s = true) ∧ meth.locks = false ∧ meth.name = (pg_mn mi).name ∧
  px_K g s ∧ px_b g ≤ s.heap.size ∧ px_Z g s s.heap ∧ d ≤ R.frames ∧ 64 * d ≤ R.locals ∧ px_W s ∧ px_B g s
/-- how a method ends: with a value, or with an exception (its place) -/
abbrev px_Q : Type := (Option Value ⊕ Nat) → px_H → Prop
def px_O (g : px_G) (B1 B2 : Nat) (Q : px_Q) (s : State) (o : Outcome) (t : State) : Prop :=
  ∃ (ph' : px_H) (L : List Loc) (k n : Nat), s.WarmedH t.vm ∧ s.sameButNew ({ t with vm := s.vm } : State) L k n ∧ (∀ q ∈ L, px_A g q.base) ∧ k + B1 = ph'.length ∧ n + B2 = px_sum ph' ∧ ph'.length ≤ pg_MC ∧ px_sum ph' ≤ pg_MS ∧
    px_R g ph' t.heap ∧ va_F (px_A g) s t ∧ ((∃ r : Option Value, o = .returned (r.map (px_v g)) ∧ Q (.inl r) ph') ∨ ∃ x : Nat, o = .threw (px_b g + x) ∧ Q (.inr x) ph')
def px_E (g : px_G) (below : List Frame) (s : State) (B1 B2 : Nat) (Q : px_Q) : State → Prop := fun t => ∃ o, t.status = .running ∧ Ended t below o ∧ px_O g B1 B2 Q s o t
def PW (l : Launch) (g : px_G) (d mi pc : Nat) (lv : px_L) (st : List Value) (ph : px_H) (Q : px_Q) : Prop :=
  ∀ (p : Program) (e : Env) (R : Room) (s : State) (m : MethodId) (args : Array Value) (below : List Frame) (meth : Method) (c : Code) (H : Heap) (locs : List Loc) (cells slots : Nat) (ls : Array Slot) (B1 B2 : Nat),
    px_C g d mi p R s m args meth c → px_R g ph H → va_S (px_A g) s.heap H locs → lv_has ls (pg_ml mi) (px_l g lv) →
    cells + B1 = ph.length → slots + B2 = px_sum ph → ph.length ≤ pg_MC → px_sum ph ≤ pg_MS → pg_MC ≤ R.cells + B1 → pg_MS ≤ R.slots + B2 →
    W p l e R s m args below meth c H locs cells slots (px_E g below s B1 B2 Q) (F0 m pc ls (st.map (px_v g)))
-- small laws
theorem px_cat (g : px_G) (v : Value) : (px_v g v).category = v.category := by cases v <;> rfl
theorem px_lz_mem (g : px_G) : ∀ (lv : px_L) (i : Nat) (q : Nat × Value), q ∈ px_lz g i lv ↔ ∃ (j : Nat) (v : Value), lv[j]? = some v ∧ px_fl v = false ∧ q = (i + j, px_v g v)
  | [], i, q => by simp [px_lz]
  | w :: r, i, q => by
    have ih := px_lz_mem g r (i + 1) q
    unfold px_lz
    by_cases hw : px_fl w = true
    · rw [if_pos hw, ih]
      constructor
      · rintro ⟨j, v, h1, h2, h3⟩
        exact ⟨j + 1, v, by simpa using h1, h2, by rw [h3]; congr 1; omega⟩
      · rintro ⟨j, v, h1, h2, h3⟩
        cases j with
        | zero => simp at h1; subst h1; rw [hw] at h2; cases h2
        | succ j => exact ⟨j, v, by simpa using h1, h2, by rw [h3]; congr 1; omega⟩
    · rw [if_neg hw, List.mem_cons, ih]
      constructor
      · rintro (h | ⟨j, v, h1, h2, h3⟩)
        · exact ⟨0, w, rfl, by simpa using hw, by rw [h]; rfl⟩
        · exact ⟨j + 1, v, by simpa using h1, h2, by rw [h3]; congr 1; omega⟩
      · rintro ⟨j, v, h1, h2, h3⟩
        cases j with
        | zero => simp at h1; subst h1; exact Or.inl h3
        | succ j => exact Or.inr ⟨j, v, by simpa using h1, h2, by rw [h3]; congr 1; omega⟩
theorem px_l_mem {g : px_G} {lv : px_L} {q : Nat × Value} : q ∈ px_l g lv ↔ ∃ (j : Nat) (v : Value), lv[j]? = some v ∧ px_fl v = false ∧ q = (j, px_v g v) := by
  rw [px_l, px_lz_mem]
  simp only [Nat.zero_add]
theorem px_at {g : px_G} {ls : Array Slot} {nL : Nat} {lv : px_L} {i : Nat} {v : Value} (hl : lv_has ls nL (px_l g lv)) (h : lv[i]? = some v) (hf : px_fl v = false) : ls[i]? = some (.val (px_v g v)) :=
  hl.2.2 (i, px_v g v) (px_l_mem.mpr ⟨i, v, h, hf, rfl⟩)
/-- the place ahead of i holds no long -/
def px_ok1 (lv : px_L) (i : Nat) : Bool := match i with
  | 0 => true
  | k + 1 => match lv[k]? with
    | some v => v.category == 1
    | none => true
theorem px_ok1_at {lv : px_L} {i j : Nat} {v : Value} (h : px_ok1 lv i = true) (hj : lv[j]? = some v) (hi : j + 1 = i) : v.category = 1 := by
  subst hi
  simpa [px_ok1, hj] using h
theorem px_s1 {g : px_G} {ls : Array Slot} {nL : Nat} {lv : px_L} {i : Nat} {v : Value} (ho : px_ok1 lv i = true) (h : lv_has ls nL ((i, px_v g v) :: (px_l g lv).filter (fun q => !(q.1 == i) && !(q.1 + 1 == i && q.2.category == 2)))) : lv_has ls nL (px_l g (lv.set i v)) := by
  refine ⟨h.1, h.2.1, fun q hq => h.2.2 q ?_⟩
  obtain ⟨j, w, h1, h2, rfl⟩ := px_l_mem.mp hq
  rw [List.getElem?_set] at h1
  by_cases hij : i = j
  · subst hij
    split at h1
    next => split at h1 <;> first | (cases h1; exact List.mem_cons_self) | cases h1
    next h3 => exact absurd rfl h3
  · rw [if_neg hij] at h1
    refine List.mem_cons_of_mem _ (List.mem_filter.mpr ⟨px_l_mem.mpr ⟨j, w, h1, h2, rfl⟩, ?_⟩)
    by_cases h4 : j + 1 = i
    · have := px_ok1_at ho h1 h4
      simp [px_cat, this, Ne.symm hij]
    · simp [h4, Ne.symm hij]
theorem px_s2 {g : px_G} {ls : Array Slot} {nL : Nat} {lv : px_L} {i : Nat} {v : Value} (ho : px_ok1 lv i = true) (h : lv_has ls nL ((i, px_v g v) :: (px_l g lv).filter (fun q => !(q.1 == i) && (!(q.1 == i + 1) && !(q.1 + 1 == i && q.2.category == 2))))) : lv_has ls nL (px_l g ((lv.set i v).set (i + 1) px_u)) := by
  refine ⟨h.1, h.2.1, fun q hq => h.2.2 q ?_⟩
  obtain ⟨j, w, h1, h2, rfl⟩ := px_l_mem.mp hq
  rw [List.getElem?_set] at h1
  by_cases hij : i + 1 = j
  · subst hij
    split at h1
    next => split at h1 <;> first | (cases h1; cases h2) | cases h1
    next h3 => exact absurd rfl h3
  · rw [if_neg hij, List.getElem?_set] at h1
    by_cases hi2 : i = j
    · subst hi2
      split at h1
      next => split at h1 <;> first | (cases h1; exact List.mem_cons_self) | cases h1
      next h3 => exact absurd rfl h3
    · rw [if_neg hi2] at h1
      refine List.mem_cons_of_mem _ (List.mem_filter.mpr ⟨px_l_mem.mpr ⟨j, w, h1, h2, rfl⟩, ?_⟩)
      by_cases h4 : j + 1 = i
      · have := px_ok1_at ho h1 h4
        simp [px_cat, this, Ne.symm hi2, Ne.symm hij]
      · simp [h4, Ne.symm hi2, Ne.symm hij]
theorem px_R.one {g : px_G} {ph : px_H} {H : Heap} (h : px_R g ph H) {k : Nat} {e : px_PE} (hk : ph[k]? = some e) : va_P (px_D g) pg_cl [(px_b g + k, px_e g e)] H := by
  intro j q hq
  cases j with
  | zero => cases hq; exact h.2 k e hk
  | succ j => simp at hq
theorem px_tys_at {g : px_G} {t : Nat} {ty : FieldType} (h : pg_ty[t]? = some ty) : (px_tys g)[t]? = some (px_ca g t, ty) := by
  have hlt : t < pg_ty.length := (List.getElem?_eq_some_iff.mp h).1
  simp [px_tys, List.getElem?_map, List.getElem?_range hlt, List.getD_eq_getElem?_getD, h]
theorem px_sum_set {ph : px_H} {k : Nat} {e e' : px_PE} (hk : ph[k]? = some e) (he : px_sz e' = px_sz e) : px_sum (ph.set k e') = px_sum ph := by
  unfold px_sum
  have hlt : k < ph.length := (List.getElem?_eq_some_iff.mp hk).1
  have : (ph.set k e').map px_sz = ph.map px_sz := by
    apply List.ext_getElem?
    intro j
    rw [List.getElem?_map, List.getElem?_map, List.getElem?_set]
    by_cases hj : k = j
    · subst hj
      simp [hlt, hk, he]
      have := (List.getElem?_eq_some_iff.mp hk).2
      rw [this]
    · simp [hj]
  rw [this]
theorem px_R.set {g : px_G} {ph : px_H} {H H' : Heap} (h : px_R g ph H) {k : Nat} {e e' : px_PE} (hk : ph[k]? = some e) (hz : H'.size = H.size) (ho : ∀ q : Nat, q ≠ px_b g + k → H'[q]? = H[q]?) (he : va_at (px_D g) pg_cl (px_b g + k, px_e g e') H') : px_R g (ph.set k e') H' := by
  refine ⟨by rw [hz, h.1, List.length_set], fun j x hj => ?_⟩
  rw [List.getElem?_set] at hj
  by_cases hkj : k = j
  · subst hkj
    split at hj
    next => split at hj <;> first | (cases hj; exact he) | cases hj
    next h2 => exact absurd rfl h2
  · rw [if_neg hkj] at hj
    exact (h.2 j x hj).kept (ho _ (by show px_b g + j ≠ px_b g + k; omega))
theorem px_R.push {g : px_G} {ph : px_H} {H H' : Heap} (h : px_R g ph H) {e : px_PE} (hz : H'.size = H.size + 1) (ho : ∀ q : Nat, q < H.size → H'[q]? = H[q]?) (he : va_at (px_D g) pg_cl (px_b g + ph.length, px_e g e) H') : px_R g (ph ++ [e]) H' := by
  refine ⟨by rw [hz, h.1, List.length_append]; rfl, fun j x hj => ?_⟩
  by_cases hl : j < ph.length
  · rw [List.getElem?_append_left hl] at hj
    refine (h.2 j x hj).kept (ho _ ?_)
    show px_b g + j < H.size
    rw [h.1]; omega
  · rw [List.getElem?_append_right (by omega)] at hj
    have hz2 : j - ph.length < 1 := (List.getElem?_eq_some_iff.mp hj).1
    have : j = ph.length := by omega
    subst this
    simp at hj
    subst hj
    exact he
theorem px_A_in (g : px_G) (k : Nat) : px_A g (px_b g + k) := Nat.le_add_right _ _
theorem px_Z.moved {g : px_G} {u U : State} {H : Heap} (hvm : u.vm.Alike U.vm) (h : px_Z g u H) : px_Z g U H := ⟨fun j hj => (h.1 j hj).moved hvm, fun q hq => (h.2 q hq).moved hvm⟩
theorem px_Z.kept {g : px_G} {U : State} {H H1 : Heap} (h : px_Z g U H) (hq : ∀ a : Nat, a < H.size → ¬ px_A g a → H1[a]? = H[a]?) : px_Z g U H1 := ⟨fun j hj => (h.1 j hj).kept hq, fun q hq' => (h.2 q hq').kept hq⟩
end
section
/-! instructions that touch neither heap nor locals -/
def pm_alu (i : Instr) (st : List Value) : Option (Nat × List Value) := match i with
  | .iconst n => some (1, .int (Int32.ofInt n) :: st)
  | .bipush n => some (2, .int (Int8.ofInt n).toInt32 :: st)
  | .sipush n => some (3, .int (Int16.ofInt n).toInt32 :: st)
  | .lconst n => some (1, .long (Int64.ofNat (n : Nat)) :: st)
  | .aconst_null => some (1, .null :: st)
  | .iadd => match st with
    | .int y :: .int x :: r => some (1, .int (x + y) :: r)
    | _ => none
  | .isub => match st with
    | .int y :: .int x :: r => some (1, .int (x - y) :: r)
    | _ => none
  | .imul => match st with
    | .int y :: .int x :: r => some (1, .int (x * y) :: r)
    | _ => none
  | .iand => match st with
    | .int y :: .int x :: r => some (1, .int (x &&& y) :: r)
    | _ => none
  | .ior => match st with
    | .int y :: .int x :: r => some (1, .int (x ||| y) :: r)
    | _ => none
  | .ixor => match st with
    | .int y :: .int x :: r => some (1, .int (x ^^^ y) :: r)
    | _ => none
  | .ishl => match st with
    | .int y :: .int x :: r => some (1, .int (x <<< (y &&& 31)) :: r)
    | _ => none
  | .ishr => match st with
    | .int y :: .int x :: r => some (1, .int (x >>> (y &&& 31)) :: r)
    | _ => none
  | .iushr => match st with
    | .int y :: .int x :: r => some (1, .int ((x.toUInt32 >>> (y.toUInt32 &&& Int32.toUInt32 31)).toInt32) :: r)
    | _ => none
  | .ladd => match st with
    | .long y :: .long x :: r => some (1, .long (x + y) :: r)
    | _ => none
  | .lsub => match st with
    | .long y :: .long x :: r => some (1, .long (x - y) :: r)
    | _ => none
  | .lmul => match st with
    | .long y :: .long x :: r => some (1, .long (x * y) :: r)
    | _ => none
  | .land => match st with
    | .long y :: .long x :: r => some (1, .long (x &&& y) :: r)
    | _ => none
  | .lor => match st with
    | .long y :: .long x :: r => some (1, .long (x ||| y) :: r)
    | _ => none
  | .lxor => match st with
    | .long y :: .long x :: r => some (1, .long (x ^^^ y) :: r)
    | _ => none
  | .lshl => match st with
    | .int y :: .long x :: r => some (1, .long (x <<< (y.toInt64 &&& 63)) :: r)
    | _ => none
  | .lshr => match st with
    | .int y :: .long x :: r => some (1, .long (x >>> (y.toInt64 &&& 63)) :: r)
    | _ => none
  | .lushr => match st with
    | .int y :: .long x :: r => some (1, .long ((x.toUInt64 >>> (y.toInt64.toUInt64 &&& Int64.toUInt64 63)).toInt64) :: r)
    | _ => none
  | .ineg => match st with
    | .int x :: r => some (1, .int (-x) :: r)
    | _ => none
  | .i2l => match st with
    | .int x :: r => some (1, .long x.toInt64 :: r)
    | _ => none
  | .i2b => match st with
    | .int x :: r => some (1, .int x.toInt8.toInt32 :: r)
    | _ => none
  | .i2c => match st with
    | .int x :: r => some (1, .int (x.toUInt32 % 65536).toInt32 :: r)
    | _ => none
  | .lneg => match st with
    | .long x :: r => some (1, .long (-x) :: r)
    | _ => none
  | .l2i => match st with
    | .long x :: r => some (1, .int x.toInt32 :: r)
    | _ => none
  | .lcmp => match st with
    | .long y :: .long x :: r => some (1, .int (lg_cmp x y) :: r)
    | _ => none
  | .dup => match st with
    | v :: r => if v.category = 1 then some (1, v :: v :: r) else none
    | _ => none
  | .pop => match st with
    | v :: r => if v.category = 1 then some (1, r) else none
    | _ => none
  | .dup2 => match st with
    | v :: w :: r => if v.category = 1 ∧ w.category = 1 then some (1, v :: w :: v :: w :: r) else none
    | _ => none
  | .dup_x1 => match st with
    | v :: w :: r => if v.category = 1 ∧ w.category = 1 then some (1, v :: w :: v :: r) else none
    | _ => none
  | _ => none
section PXALU
variable {l : Launch} {g : px_G} {d mi pc : Nat} {lv : px_L} {st st' : List Value} {ph : px_H} {Q : px_Q} {i : Instr} {len nx r1 r2 : Nat}
set_option maxHeartbeats 2000000 in
theorem px_alu (hcd : pg_cd mi pc = some (i, nx, r1, r2)) (ha : pm_alu i st = some (len, st')) (hp : pc + len = nx) (k : PW l g d mi nx lv st' ph Q) : PW l g d mi pc lv st ph Q := by
  subst hp
  intro p e R s m args below meth c H locs cells slots ls B1 B2 hC hR hS hl h1 h2 h3 h4 h5 h6
  have kk := k p e R s m args below meth c H locs cells slots ls B1 B2 hC hR hS hl h1 h2 h3 h4 h5 h6
  have hd := pg_dec hcd
  have hx := hC.1
  have hb := hC.2.1
  unfold pm_alu at ha
  split at ha
  next n => cases ha; exact lv_iconst hx hb hd rfl kk
  next n => cases ha; exact lv_bipush hx hb hd rfl kk
  next n => cases ha; exact lv_sipush hx hb hd rfl kk
  next n => cases ha; exact lv_lconst hx hb hd rfl kk
  next => cases ha; exact lv_null hx hb hd kk
  next =>
    split at ha
    next => cases ha; exact lv_iadd hx hb hd kk
    next => cases ha
  next =>
    split at ha
    next => cases ha; exact lv_isub hx hb hd kk
    next => cases ha
  next =>
    split at ha
    next => cases ha; exact lv_imul hx hb hd kk
    next => cases ha
  next =>
    split at ha
    next => cases ha; exact lv_iand hx hb hd kk
    next => cases ha
  next =>
    split at ha
    next => cases ha; exact lv_ior hx hb hd kk
    next => cases ha
  next =>
    split at ha
    next => cases ha; exact lv_ixor hx hb hd kk
    next => cases ha
  next =>
    split at ha
    next => cases ha; exact lv_ishl hx hb hd kk
    next => cases ha
  next =>
    split at ha
    next => cases ha; exact lv_ishr hx hb hd kk
    next => cases ha
  next =>
    split at ha
    next => cases ha; exact lv_iushr hx hb hd rfl kk
    next => cases ha
  next =>
    split at ha
    next => cases ha; exact lv_ladd hx hb hd kk
    next => cases ha
  next =>
    split at ha
    next => cases ha; exact lv_lsub hx hb hd kk
    next => cases ha
  next =>
    split at ha
    next => cases ha; exact lv_lmul hx hb hd kk
    next => cases ha
  next =>
    split at ha
    next => cases ha; exact lv_land hx hb hd kk
    next => cases ha
  next =>
    split at ha
    next => cases ha; exact lv_lor hx hb hd kk
    next => cases ha
  next =>
    split at ha
    next => cases ha; exact lv_lxor hx hb hd kk
    next => cases ha
  next =>
    split at ha
    next => cases ha; exact lv_lshl hx hb hd rfl kk
    next => cases ha
  next =>
    split at ha
    next => cases ha; exact lv_lshr hx hb hd rfl kk
    next => cases ha
  next =>
    split at ha
    next => cases ha; exact lv_lushr hx hb hd rfl kk
    next => cases ha
  next =>
    split at ha
    next => cases ha; exact lv_ineg hx hb hd kk
    next => cases ha
  next =>
    split at ha
    next => cases ha; exact lv_i2l hx hb hd rfl kk
    next => cases ha
  next =>
    split at ha
    next => cases ha; exact lv_i2b hx hb hd rfl kk
    next => cases ha
  next =>
    split at ha
    next => cases ha; exact lv_i2c hx hb hd rfl kk
    next => cases ha
  next =>
    split at ha
    next => cases ha; exact lv_lneg hx hb hd kk
    next => cases ha
  next =>
    split at ha
    next => cases ha; exact lv_l2i hx hb hd rfl kk
    next => cases ha
  next =>
    split at ha
    next => cases ha; exact W.lcmp hx hb hd kk
    next => cases ha
  next =>
    split at ha
    next =>
      split at ha
      next hc => cases ha; exact lv_dup hx hb hd (by rw [px_cat]; exact hc) kk
      next => cases ha
    next => cases ha
  next =>
    split at ha
    next =>
      split at ha
      next hc => cases ha; exact lv_pop hx hb hd (by rw [px_cat]; exact hc) kk
      next => cases ha
    next => cases ha
  next =>
    split at ha
    next =>
      split at ha
      next hc => cases ha; exact lv_dup2_11 hx hb hd (by rw [px_cat]; exact hc.1) (by rw [px_cat]; exact hc.2) kk
      next => cases ha
    next => cases ha
  next =>
    split at ha
    next =>
      split at ha
      next hc => cases ha; exact lv_dup_x1 hx hb hd (by rw [px_cat]; exact hc.1) (by rw [px_cat]; exact hc.2) kk
      next => cases ha
    next => cases ha
  next => cases ha
theorem px_idiv {x y : Int32} {r : List Value} (hcd : pg_cd mi pc = some (.idiv, nx, r1, r2)) (hy : ¬ y = 0) (hp : pc + 1 = nx) (k : PW l g d mi nx lv (.int (x / y) :: r) ph Q) : PW l g d mi pc lv (.int y :: .int x :: r) ph Q := by
  subst hp
  intro p e R s m args below meth c H locs cells slots ls B1 B2 hC hR hS hl h1 h2 h3 h4 h5 h6
  exact lv_idiv hC.1 hC.2.1 (pg_dec hcd) hy (k p e R s m args below meth c H locs cells slots ls B1 B2 hC hR hS hl h1 h2 h3 h4 h5 h6)
theorem px_irem {x y : Int32} {r : List Value} (hcd : pg_cd mi pc = some (.irem, nx, r1, r2)) (hy : ¬ y = 0) (hp : pc + 1 = nx) (k : PW l g d mi nx lv (.int (x - x / y * y) :: r) ph Q) : PW l g d mi pc lv (.int y :: .int x :: r) ph Q := by
  subst hp
  intro p e R s m args below meth c H locs cells slots ls B1 B2 hC hR hS hl h1 h2 h3 h4 h5 h6
  exact lv_irem hC.1 hC.2.1 (pg_dec hcd) hy (k p e R s m args below meth c H locs cells slots ls B1 B2 hC hR hS hl h1 h2 h3 h4 h5 h6)
theorem px_ldiv {x y : Int64} {r : List Value} (hcd : pg_cd mi pc = some (.ldiv, nx, r1, r2)) (hy : ¬ y = 0) (hp : pc + 1 = nx) (k : PW l g d mi nx lv (.long (x / y) :: r) ph Q) : PW l g d mi pc lv (.long y :: .long x :: r) ph Q := by
  subst hp
  intro p e R s m args below meth c H locs cells slots ls B1 B2 hC hR hS hl h1 h2 h3 h4 h5 h6
  exact lv_ldiv hC.1 hC.2.1 (pg_dec hcd) hy (k p e R s m args below meth c H locs cells slots ls B1 B2 hC hR hS hl h1 h2 h3 h4 h5 h6)
theorem px_lrem {x y : Int64} {r : List Value} (hcd : pg_cd mi pc = some (.lrem, nx, r1, r2)) (hy : ¬ y = 0) (hp : pc + 1 = nx) (k : PW l g d mi nx lv (.long (x - x / y * y) :: r) ph Q) : PW l g d mi pc lv (.long y :: .long x :: r) ph Q := by
  subst hp
  intro p e R s m args below meth c H locs cells slots ls B1 B2 hC hR hS hl h1 h2 h3 h4 h5 h6
  exact lv_lrem hC.1 hC.2.1 (pg_dec hcd) hy (k p e R s m args below meth c H locs cells slots ls B1 B2 hC hR hS hl h1 h2 h3 h4 h5 h6)
-- loads: of a local (length of the instruction, place, kind of value)
def pm_ld (i : Instr) : Option (Nat × Nat × Nat) := match i with
  | .iload k => some (2, k, 0)
  | .iload_n k => some (1, (k : Nat), 0)
  | .lload k => some (2, k, 1)
  | .lload_n k => some (1, (k : Nat), 1)
  | .aload k => some (2, k, 2)
  | .aload_n k => some (1, (k : Nat), 2)
  | _ => none
def pm_kd : Value → Nat
  | .int _ => 0
  | .long _ => 1
  | .ref _ => 2
  | .null => 2
  | .retAddr _ => 2
  | _ => 3
theorem px_ld {n kd : Nat} {v : Value} (hcd : pg_cd mi pc = some (i, nx, r1, r2)) (hi : pm_ld i = some (len, n, kd)) (hv : lv[n]? = some v) (hk : pm_kd v = kd) (hp : pc + len = nx) (k : PW l g d mi nx lv (v :: st) ph Q) : PW l g d mi pc lv st ph Q := by
  subst hp
  intro p e R s m args below meth c H locs cells slots ls B1 B2 hC hR hS hl h1 h2 h3 h4 h5 h6
  have kk := k p e R s m args below meth c H locs cells slots ls B1 B2 hC hR hS hl h1 h2 h3 h4 h5 h6
  have hd := pg_dec hcd
  have hx := hC.1
  have hb := hC.2.1
  unfold pm_ld at hi
  split at hi <;> cases hi
  · cases v <;> first | (cases hk; done) | exact lv_iload hx hb hd (px_at hl hv rfl) kk
  · cases v <;> first | (cases hk; done) | exact lv_iload_n hx hb hd rfl (px_at hl hv rfl) kk
  · cases v <;> first | (cases hk; done) | exact lv_lload hx hb hd (px_at hl hv rfl) kk
  · cases v <;> first | (cases hk; done) | exact lv_lload_n hx hb hd rfl (px_at hl hv rfl) kk
  · cases v <;> first | (cases hk; done) | exact lv_aload hx hb hd (px_at hl hv rfl) kk | exact lv_aloadN hx hb hd (px_at hl hv rfl) kk
  · cases v <;> first | (cases hk; done) | exact lv_aload_n hx hb hd rfl (px_at hl hv rfl) kk | exact lv_aload_nN hx hb hd rfl (px_at hl hv rfl) kk
def pm_st (i : Instr) : Option (Nat × Nat × Nat) := match i with
  | .istore k => some (2, k, 0)
  | .istore_n k => some (1, (k : Nat), 0)
  | .lstore k => some (2, k, 1)
  | .lstore_n k => some (1, (k : Nat), 1)
  | .astore k => some (2, k, 2)
  | .astore_n k => some (1, (k : Nat), 2)
  | _ => none
def pm_set (lv : px_L) (i : Nat) (v : Value) : px_L := match v with
  | .long x => (lv.set i (.long x)).set (i + 1) px_u
  | v => lv.set i v
theorem px_st {n kd : Nat} {v : Value} {lv' : px_L} (hcd : pg_cd mi pc = some (i, nx, r1, r2)) (hi : pm_st i = some (len, n, kd)) (hk : pm_kd v = kd) (hn : Nat.ble (n + v.category) (pg_ml mi) = true) (ho : px_ok1 lv n = true) (hl' : pm_set lv n v = lv') (hp : pc + len = nx) (k : PW l g d mi nx lv' st ph Q) : PW l g d mi pc lv (v :: st) ph Q := by
  subst hp
  intro p e R s m args below meth c H locs cells slots ls B1 B2 hC hR hS hl h1 h2 h3 h4 h5 h6
  subst hl'
  have kk := fun ls' hl' => k p e R s m args below meth c H locs cells slots ls' B1 B2 hC hR hS hl' h1 h2 h3 h4 h5 h6
  have hd := pg_dec hcd
  have hx := hC.1
  have hb := hC.2.1
  have hn := Nat.le_of_ble_eq_true hn
  unfold pm_st at hi
  split at hi <;> cases hi
  · cases v <;> first | (cases hk; done) | exact lv_istore hx hb hd hl hn rfl (fun ls' q => kk ls' (px_s1 (v := .int _) ho q))
  · cases v <;> first | (cases hk; done) | exact lv_istore_n hx hb hd rfl hl hn rfl (fun ls' q => kk ls' (px_s1 (v := .int _) ho q))
  · cases v <;> first | (cases hk; done) | exact lv_lstore hx hb hd hl hn rfl (fun ls' q => kk ls' (px_s2 (v := .long _) ho q))
  · cases v <;> first | (cases hk; done) | exact lv_lstore_n hx hb hd rfl hl hn rfl (fun ls' q => kk ls' (px_s2 (v := .long _) ho q))
  · cases v <;> first | (cases hk; done) | exact lv_astore hx hb hd hl hn rfl (fun ls' q => kk ls' (px_s1 (v := .ref _) ho q)) | exact lv_astore hx hb hd hl hn rfl (fun ls' q => kk ls' (px_s1 (v := .retAddr _) ho q)) | exact lv_astoreN hx hb hd hl hn rfl (fun ls' q => kk ls' (px_s1 (v := .null) ho q))
  · cases v <;> first | (cases hk; done) | exact lv_astore_n hx hb hd rfl hl hn rfl (fun ls' q => kk ls' (px_s1 (v := .ref _) ho q)) | exact lv_astore_n hx hb hd rfl hl hn rfl (fun ls' q => kk ls' (px_s1 (v := .retAddr _) ho q)) | exact lv_astore_nN hx hb hd rfl hl hn rfl (fun ls' q => kk ls' (px_s1 (v := .null) ho q))
theorem px_iinc {n : Nat} {w : Int} {x : Int32} {lv' : px_L} (hcd : pg_cd mi pc = some (.iinc n w, nx, r1, r2)) (hv : lv[n]? = some (.int x)) (hn : Nat.ble (n + 1) (pg_ml mi) = true) (ho : px_ok1 lv n = true) (hl' : lv.set n (.int (x + Int32.ofInt w)) = lv') (hp : pc + 3 = nx) (k : PW l g d mi nx lv' st ph Q) : PW l g d mi pc lv st ph Q := by
  subst hp
  intro p e R s m args below meth c H locs cells slots ls B1 B2 hC hR hS hl h1 h2 h3 h4 h5 h6
  subst hl'
  have kk := fun ls' hl' => k p e R s m args below meth c H locs cells slots ls' B1 B2 hC hR hS hl' h1 h2 h3 h4 h5 h6
  obtain ⟨j, hj⟩ := List.mem_iff_getElem?.mp (px_l_mem (g := g).mpr ⟨n, .int x, hv, rfl, rfl⟩)
  exact lv_iinc hC.1 hC.2.1 (pg_dec hcd) hl hj rfl (Nat.le_of_ble_eq_true hn) rfl (fun ls' q => kk ls' (px_s1 (v := .int (x + Int32.ofInt w)) ho q))
/-- forgetting a local -/
theorem px_forget {n : Nat} {lv' : px_L} (hl' : lv.set n px_u = lv') (k : PW l g d mi pc lv' st ph Q) : PW l g d mi pc lv st ph Q := by
  subst hl'
  intro p e R s m args below meth c H locs cells slots ls B1 B2 hC hR hS hl h1 h2 h3 h4 h5 h6
  refine k p e R s m args below meth c H locs cells slots ls B1 B2 hC hR hS ⟨hl.1, hl.2.1, fun q hq => hl.2.2 q ?_⟩ h1 h2 h3 h4 h5 h6
  obtain ⟨j, w, q1, q2, rfl⟩ := px_l_mem.mp hq
  rw [List.getElem?_set] at q1
  by_cases hij : n = j
  · subst hij
    split at q1
    next => split at q1 <;> first | (cases q1; cases q2) | cases q1
    next h7 => exact absurd rfl h7
  · rw [if_neg hij] at q1
    exact px_l_mem.mpr ⟨j, w, q1, q2, rfl⟩
-- branches: r1 is the target
theorem px_goto {off : Int} (hcd : pg_cd mi pc = some (.goto off, nx, r1, r2)) (ht : (pc : Int) + off = (r1 : Int)) (hp : pc + 3 = nx) (k : PW l g d mi r1 lv st ph Q) : PW l g d mi pc lv st ph Q := by
  subst hp
  intro p e R s m args below meth c H locs cells slots ls B1 B2 hC hR hS hl h1 h2 h3 h4 h5 h6
  exact lv_goto hC.1 hC.2.1 (pg_dec hcd) ht (k p e R s m args below meth c H locs cells slots ls B1 B2 hC hR hS hl h1 h2 h3 h4 h5 h6)
theorem px_ifeq {off : Int} {x : Int32} (hcd : pg_cd mi pc = some (.ifCond .eq off, nx, r1, r2)) (ht : (pc : Int) + off = (r1 : Int)) (hp : pc + 3 = nx) (kt : x = 0 → PW l g d mi r1 lv st ph Q) (kf : ¬ x = 0 → PW l g d mi nx lv st ph Q) : PW l g d mi pc lv (.int x :: st) ph Q := by
  subst hp
  intro p e R s m args below meth c H locs cells slots ls B1 B2 hC hR hS hl h1 h2 h3 h4 h5 h6
  exact lv_if_eq hC.1 hC.2.1 (pg_dec hcd) ht (fun q => kt q p e R s m args below meth c H locs cells slots ls B1 B2 hC hR hS hl h1 h2 h3 h4 h5 h6) (fun q => kf q p e R s m args below meth c H locs cells slots ls B1 B2 hC hR hS hl h1 h2 h3 h4 h5 h6)
theorem px_ifne {off : Int} {x : Int32} (hcd : pg_cd mi pc = some (.ifCond .ne off, nx, r1, r2)) (ht : (pc : Int) + off = (r1 : Int)) (hp : pc + 3 = nx) (kt : ¬ x = 0 → PW l g d mi r1 lv st ph Q) (kf : x = 0 → PW l g d mi nx lv st ph Q) : PW l g d mi pc lv (.int x :: st) ph Q := by
  subst hp
  intro p e R s m args below meth c H locs cells slots ls B1 B2 hC hR hS hl h1 h2 h3 h4 h5 h6
  exact lv_if_ne hC.1 hC.2.1 (pg_dec hcd) ht (fun q => kt q p e R s m args below meth c H locs cells slots ls B1 B2 hC hR hS hl h1 h2 h3 h4 h5 h6) (fun q => kf q p e R s m args below meth c H locs cells slots ls B1 B2 hC hR hS hl h1 h2 h3 h4 h5 h6)
theorem px_iflt {off : Int} {x : Int32} (hcd : pg_cd mi pc = some (.ifCond .lt off, nx, r1, r2)) (ht : (pc : Int) + off = (r1 : Int)) (hp : pc + 3 = nx) (kt : x < 0 → PW l g d mi r1 lv st ph Q) (kf : ¬ x < 0 → PW l g d mi nx lv st ph Q) : PW l g d mi pc lv (.int x :: st) ph Q := by
  subst hp
  intro p e R s m args below meth c H locs cells slots ls B1 B2 hC hR hS hl h1 h2 h3 h4 h5 h6
  exact lv_if_lt hC.1 hC.2.1 (pg_dec hcd) ht (fun q => kt q p e R s m args below meth c H locs cells slots ls B1 B2 hC hR hS hl h1 h2 h3 h4 h5 h6) (fun q => kf q p e R s m args below meth c H locs cells slots ls B1 B2 hC hR hS hl h1 h2 h3 h4 h5 h6)
theorem px_ifge {off : Int} {x : Int32} (hcd : pg_cd mi pc = some (.ifCond .ge off, nx, r1, r2)) (ht : (pc : Int) + off = (r1 : Int)) (hp : pc + 3 = nx) (kt : 0 ≤ x → PW l g d mi r1 lv st ph Q) (kf : ¬ 0 ≤ x → PW l g d mi nx lv st ph Q) : PW l g d mi pc lv (.int x :: st) ph Q := by
  subst hp
  intro p e R s m args below meth c H locs cells slots ls B1 B2 hC hR hS hl h1 h2 h3 h4 h5 h6
  exact lv_if_ge hC.1 hC.2.1 (pg_dec hcd) ht (fun q => kt q p e R s m args below meth c H locs cells slots ls B1 B2 hC hR hS hl h1 h2 h3 h4 h5 h6) (fun q => kf q p e R s m args below meth c H locs cells slots ls B1 B2 hC hR hS hl h1 h2 h3 h4 h5 h6)
theorem px_ifgt {off : Int} {x : Int32} (hcd : pg_cd mi pc = some (.ifCond .gt off, nx, r1, r2)) (ht : (pc : Int) + off = (r1 : Int)) (hp : pc + 3 = nx) (kt : 0 < x → PW l g d mi r1 lv st ph Q) (kf : ¬ 0 < x → PW l g d mi nx lv st ph Q) : PW l g d mi pc lv (.int x :: st) ph Q := by
  subst hp
  intro p e R s m args below meth c H locs cells slots ls B1 B2 hC hR hS hl h1 h2 h3 h4 h5 h6
  exact lv_if_gt hC.1 hC.2.1 (pg_dec hcd) ht (fun q => kt q p e R s m args below meth c H locs cells slots ls B1 B2 hC hR hS hl h1 h2 h3 h4 h5 h6) (fun q => kf q p e R s m args below meth c H locs cells slots ls B1 B2 hC hR hS hl h1 h2 h3 h4 h5 h6)
theorem px_ifle {off : Int} {x : Int32} (hcd : pg_cd mi pc = some (.ifCond .le off, nx, r1, r2)) (ht : (pc : Int) + off = (r1 : Int)) (hp : pc + 3 = nx) (kt : x ≤ 0 → PW l g d mi r1 lv st ph Q) (kf : ¬ x ≤ 0 → PW l g d mi nx lv st ph Q) : PW l g d mi pc lv (.int x :: st) ph Q := by
  subst hp
  intro p e R s m args below meth c H locs cells slots ls B1 B2 hC hR hS hl h1 h2 h3 h4 h5 h6
  exact lv_if_le hC.1 hC.2.1 (pg_dec hcd) ht (fun q => kt q p e R s m args below meth c H locs cells slots ls B1 B2 hC hR hS hl h1 h2 h3 h4 h5 h6) (fun q => kf q p e R s m args below meth c H locs cells slots ls B1 B2 hC hR hS hl h1 h2 h3 h4 h5 h6)
theorem px_iceq {off : Int} {x y : Int32} (hcd : pg_cd mi pc = some (.if_icmp .eq off, nx, r1, r2)) (ht : (pc : Int) + off = (r1 : Int)) (hp : pc + 3 = nx) (kt : x = y → PW l g d mi r1 lv st ph Q) (kf : ¬ x = y → PW l g d mi nx lv st ph Q) : PW l g d mi pc lv (.int y :: .int x :: st) ph Q := by
  subst hp
  intro p e R s m args below meth c H locs cells slots ls B1 B2 hC hR hS hl h1 h2 h3 h4 h5 h6
  exact lv_icmp_eq hC.1 hC.2.1 (pg_dec hcd) ht (fun q => kt q p e R s m args below meth c H locs cells slots ls B1 B2 hC hR hS hl h1 h2 h3 h4 h5 h6) (fun q => kf q p e R s m args below meth c H locs cells slots ls B1 B2 hC hR hS hl h1 h2 h3 h4 h5 h6)
theorem px_icne {off : Int} {x y : Int32} (hcd : pg_cd mi pc = some (.if_icmp .ne off, nx, r1, r2)) (ht : (pc : Int) + off = (r1 : Int)) (hp : pc + 3 = nx) (kt : ¬ x = y → PW l g d mi r1 lv st ph Q) (kf : x = y → PW l g d mi nx lv st ph Q) : PW l g d mi pc lv (.int y :: .int x :: st) ph Q := by
  subst hp
  intro p e R s m args below meth c H locs cells slots ls B1 B2 hC hR hS hl h1 h2 h3 h4 h5 h6
  exact lv_icmp_ne hC.1 hC.2.1 (pg_dec hcd) ht (fun q => kt q p e R s m args below meth c H locs cells slots ls B1 B2 hC hR hS hl h1 h2 h3 h4 h5 h6) (fun q => kf q p e R s m args below meth c H locs cells slots ls B1 B2 hC hR hS hl h1 h2 h3 h4 h5 h6)
theorem px_iclt {off : Int} {x y : Int32} (hcd : pg_cd mi pc = some (.if_icmp .lt off, nx, r1, r2)) (ht : (pc : Int) + off = (r1 : Int)) (hp : pc + 3 = nx) (kt : x < y → PW l g d mi r1 lv st ph Q) (kf : ¬ x < y → PW l g d mi nx lv st ph Q) : PW l g d mi pc lv (.int y :: .int x :: st) ph Q := by
  subst hp
  intro p e R s m args below meth c H locs cells slots ls B1 B2 hC hR hS hl h1 h2 h3 h4 h5 h6
  exact lv_icmp_lt hC.1 hC.2.1 (pg_dec hcd) ht (fun q => kt q p e R s m args below meth c H locs cells slots ls B1 B2 hC hR hS hl h1 h2 h3 h4 h5 h6) (fun q => kf q p e R s m args below meth c H locs cells slots ls B1 B2 hC hR hS hl h1 h2 h3 h4 h5 h6)
theorem px_icge {off : Int} {x y : Int32} (hcd : pg_cd mi pc = some (.if_icmp .ge off, nx, r1, r2)) (ht : (pc : Int) + off = (r1 : Int)) (hp : pc + 3 = nx) (kt : y ≤ x → PW l g d mi r1 lv st ph Q) (kf : ¬ y ≤ x → PW l g d mi nx lv st ph Q) : PW l g d mi pc lv (.int y :: .int x :: st) ph Q := by
  subst hp
  intro p e R s m args below meth c H locs cells slots ls B1 B2 hC hR hS hl h1 h2 h3 h4 h5 h6
  exact lv_icmp_ge hC.1 hC.2.1 (pg_dec hcd) ht (fun q => kt q p e R s m args below meth c H locs cells slots ls B1 B2 hC hR hS hl h1 h2 h3 h4 h5 h6) (fun q => kf q p e R s m args below meth c H locs cells slots ls B1 B2 hC hR hS hl h1 h2 h3 h4 h5 h6)
theorem px_icgt {off : Int} {x y : Int32} (hcd : pg_cd mi pc = some (.if_icmp .gt off, nx, r1, r2)) (ht : (pc : Int) + off = (r1 : Int)) (hp : pc + 3 = nx) (kt : y < x → PW l g d mi r1 lv st ph Q) (kf : ¬ y < x → PW l g d mi nx lv st ph Q) : PW l g d mi pc lv (.int y :: .int x :: st) ph Q := by
  subst hp
  intro p e R s m args below meth c H locs cells slots ls B1 B2 hC hR hS hl h1 h2 h3 h4 h5 h6
  exact lv_icmp_gt hC.1 hC.2.1 (pg_dec hcd) ht (fun q => kt q p e R s m args below meth c H locs cells slots ls B1 B2 hC hR hS hl h1 h2 h3 h4 h5 h6) (fun q => kf q p e R s m args below meth c H locs cells slots ls B1 B2 hC hR hS hl h1 h2 h3 h4 h5 h6)
theorem px_icle {off : Int} {x y : Int32} (hcd : pg_cd mi pc = some (.if_icmp .le off, nx, r1, r2)) (ht : (pc : Int) + off = (r1 : Int)) (hp : pc + 3 = nx) (kt : x ≤ y → PW l g d mi r1 lv st ph Q) (kf : ¬ x ≤ y → PW l g d mi nx lv st ph Q) : PW l g d mi pc lv (.int y :: .int x :: st) ph Q := by
  subst hp
  intro p e R s m args below meth c H locs cells slots ls B1 B2 hC hR hS hl h1 h2 h3 h4 h5 h6
  exact lv_icmp_le hC.1 hC.2.1 (pg_dec hcd) ht (fun q => kt q p e R s m args below meth c H locs cells slots ls B1 B2 hC hR hS hl h1 h2 h3 h4 h5 h6) (fun q => kf q p e R s m args below meth c H locs cells slots ls B1 B2 hC hR hS hl h1 h2 h3 h4 h5 h6)
theorem px_ifnullN {off : Int} (hcd : pg_cd mi pc = some (.ifnull off, nx, r1, r2)) (ht : (pc : Int) + off = (r1 : Int)) (hp : pc + 3 = nx) (k : PW l g d mi r1 lv st ph Q) : PW l g d mi pc lv (.null :: st) ph Q := by
  subst hp
  intro p e R s m args below meth c H locs cells slots ls B1 B2 hC hR hS hl h1 h2 h3 h4 h5 h6
  exact lv_ifnullN hC.1 hC.2.1 (pg_dec hcd) ht (k p e R s m args below meth c H locs cells slots ls B1 B2 hC hR hS hl h1 h2 h3 h4 h5 h6)
theorem px_ifnnN {off : Int} (hcd : pg_cd mi pc = some (.ifnonnull off, nx, r1, r2)) (hp : pc + 3 = nx) (k : PW l g d mi nx lv st ph Q) : PW l g d mi pc lv (.null :: st) ph Q := by
  subst hp
  intro p e R s m args below meth c H locs cells slots ls B1 B2 hC hR hS hl h1 h2 h3 h4 h5 h6
  exact lv_ifnonnullN hC.1 hC.2.1 (pg_dec hcd) (k p e R s m args below meth c H locs cells slots ls B1 B2 hC hR hS hl h1 h2 h3 h4 h5 h6)
theorem px_ifnullR {a : Nat} {off : Int} (hcd : pg_cd mi pc = some (.ifnull off, nx, r1, r2)) (hp : pc + 3 = nx) (k : PW l g d mi nx lv st ph Q) : PW l g d mi pc lv (.ref a :: st) ph Q := by
  subst hp
  intro p e R s m args below meth c H locs cells slots ls B1 B2 hC hR hS hl h1 h2 h3 h4 h5 h6
  exact lv_ifnull hC.1 hC.2.1 (pg_dec hcd) (k p e R s m args below meth c H locs cells slots ls B1 B2 hC hR hS hl h1 h2 h3 h4 h5 h6)
theorem px_ifnnR {a : Nat} {off : Int} (hcd : pg_cd mi pc = some (.ifnonnull off, nx, r1, r2)) (ht : (pc : Int) + off = (r1 : Int)) (hp : pc + 3 = nx) (k : PW l g d mi r1 lv st ph Q) : PW l g d mi pc lv (.ref a :: st) ph Q := by
  subst hp
  intro p e R s m args below meth c H locs cells slots ls B1 B2 hC hR hS hl h1 h2 h3 h4 h5 h6
  exact lv_ifnonnull hC.1 hC.2.1 (pg_dec hcd) ht (k p e R s m args below meth c H locs cells slots ls B1 B2 hC hR hS hl h1 h2 h3 h4 h5 h6)
theorem px_ifnullC {a : Nat} {off : Int} (hcd : pg_cd mi pc = some (.ifnull off, nx, r1, r2)) (hp : pc + 3 = nx) (k : PW l g d mi nx lv st ph Q) : PW l g d mi pc lv (.retAddr a :: st) ph Q := by
  subst hp
  intro p e R s m args below meth c H locs cells slots ls B1 B2 hC hR hS hl h1 h2 h3 h4 h5 h6
  exact lv_ifnull hC.1 hC.2.1 (pg_dec hcd) (k p e R s m args below meth c H locs cells slots ls B1 B2 hC hR hS hl h1 h2 h3 h4 h5 h6)
theorem px_ifnnC {a : Nat} {off : Int} (hcd : pg_cd mi pc = some (.ifnonnull off, nx, r1, r2)) (ht : (pc : Int) + off = (r1 : Int)) (hp : pc + 3 = nx) (k : PW l g d mi r1 lv st ph Q) : PW l g d mi pc lv (.retAddr a :: st) ph Q := by
  subst hp
  intro p e R s m args below meth c H locs cells slots ls B1 B2 hC hR hS hl h1 h2 h3 h4 h5 h6
  exact lv_ifnonnull hC.1 hC.2.1 (pg_dec hcd) ht (k p e R s m args below meth c H locs cells slots ls B1 B2 hC hR hS hl h1 h2 h3 h4 h5 h6)
theorem px_tsOut {dflt lo hi : Int} {offs : Array Int} {x : Int32} {tgt : Nat} (hcd : pg_cd mi pc = some (.tableswitch dflt lo hi offs, pc + len, r1, r2)) (h : x.toInt < lo ∨ hi < x.toInt) (ht : (pc : Int) + dflt = (tgt : Int)) (k : PW l g d mi tgt lv st ph Q) : PW l g d mi pc lv (.int x :: st) ph Q := by
  intro p e R s m args below meth c H locs cells slots ls B1 B2 hC hR hS hl h1 h2 h3 h4 h5 h6
  exact lv_tableOut hC.1 hC.2.1 (pg_dec hcd) h ht (k p e R s m args below meth c H locs cells slots ls B1 B2 hC hR hS hl h1 h2 h3 h4 h5 h6)
theorem px_tsIn {dflt lo hi : Int} {offs : Array Int} {x : Int32} {off : Int} {tgt : Nat} (hcd : pg_cd mi pc = some (.tableswitch dflt lo hi offs, pc + len, r1, r2)) (h7 : ¬ x.toInt < lo) (h8 : ¬ hi < x.toInt) (ho : offs[(x.toInt - lo).toNat]? = some off) (ht : (pc : Int) + off = (tgt : Int)) (k : PW l g d mi tgt lv st ph Q) : PW l g d mi pc lv (.int x :: st) ph Q := by
  intro p e R s m args below meth c H locs cells slots ls B1 B2 hC hR hS hl h1 h2 h3 h4 h5 h6
  exact lv_tableIn hC.1 hC.2.1 (pg_dec hcd) h7 h8 ho ht (k p e R s m args below meth c H locs cells slots ls B1 B2 hC hR hS hl h1 h2 h3 h4 h5 h6)
theorem px_lsw {dflt : Int} {ps : Array (Int × Int)} {x : Int32} {off : Int} {tgt : Nat} (hcd : pg_cd mi pc = some (.lookupswitch dflt ps, pc + len, r1, r2)) (hp : (ps.toList.zip (ps.toList.drop 1)).all (fun (a, next) => a.1 < next.1) = true) (ho : Op.lookupswitch.offset ps.toList dflt x.toInt = off) (ht : (pc : Int) + off = (tgt : Int)) (k : PW l g d mi tgt lv st ph Q) : PW l g d mi pc lv (.int x :: st) ph Q := by
  intro p e R s m args below meth c H locs cells slots ls B1 B2 hC hR hS hl h1 h2 h3 h4 h5 h6
  exact lv_lookup hC.1 hC.2.1 (pg_dec hcd) hp ho ht (k p e R s m args below meth c H locs cells slots ls B1 B2 hC hR hS hl h1 h2 h3 h4 h5 h6)
end PXALU
end
section
/-! instructions on the heap -/
def pm_fit (ty : FieldType) (v : Value) : Prop := match ty, v with
  | .int, .int _ => True
  | .long, .long _ => True
  | .boolean, .int x => x = 0 ∨ x = 1
  | .byte, .int x => -128 ≤ x ∧ x ≤ 127 ∧ x.toInt8.toInt32 = x
  | .object _, .ref _ => True
  | .object _, .null => True
  | .object _, .retAddr _ => True
  | .array _, .ref _ => True
  | .array _, .null => True
  | .array _, .retAddr _ => True
  | _, _ => False
theorem pm_fit_ok {g : px_G} {ty : FieldType} {v : Value} (h : pm_fit ty v) : narrow ty (px_v g v) = px_v g v ∧ fits ty (px_v g v) = true := by
  unfold pm_fit at h
  split at h
  all_goals first
    | exact ⟨rfl, rfl⟩
    | (rcases h with rfl | rfl <;> exact ⟨rfl, rfl⟩)
    | (obtain ⟨h1, h2, h3⟩ := h; refine ⟨by simp only [px_v, narrow, h3], ?_⟩; simp only [px_v, fits, Bool.and_eq_true, decide_eq_true_eq]; exact ⟨h1, h2⟩)
    | exact h.elim
section PXH
variable {l : Launch} {g : px_G} {d mi pc : Nat} {lv : px_L} {st : List Value} {ph : px_H} {Q : px_Q} {len nx r1 r2 : Nat}
theorem px_get {idx ci k a : Nat} {fs : List Value} {v : Value} (hcd : pg_cd mi pc = some (.getfield idx, nx, ci, k)) (he : ph[a]? = some (.inr (ci, fs))) (hv : fs[k]? = some v) (hp : pc + 3 = nx) (kk : PW l g d mi nx lv (v :: st) ph Q) : PW l g d mi pc lv (.ref a :: st) ph Q := by
  subst hp
  intro p e R s m args below meth c H locs cells slots ls B1 B2 hC hR hS hl h1 h2 h3 h4 h5 h6
  have k1 := kk p e R s m args below meth c H locs cells slots ls B1 B2 hC hR hS hl h1 h2 h3 h4 h5 h6
  obtain ⟨hx, hb, hml, hrt, hown, hts, hlk, hnm, hK, hbs, hZ, hd1, hd2, hWs, hB⟩ := hC
  obtain ⟨C, T, N, hc, hk, hin, hlink⟩ := pg_fld hcd
  have hv' : (fs.map (px_v g))[k]? = some (px_v g v) := by rw [List.getElem?_map, hv]; rfl
  exact va_get (ws := [(px_b g + a, .inr (ci, fs.map (px_v g)))]) hx hb hts hin hown hK (hR.one he) 0 rfl hc k hk (hts _ hlink) (fun _ h => h) hv' (pg_dec hcd) k1
theorem px_put {idx ci k a : Nat} {fs : List Value} {v : Value} (hcd : pg_cd mi pc = some (.putfield idx, nx, ci, k)) (he : ph[a]? = some (.inr (ci, fs))) (hl1 : k < fs.length) (hf : pm_fit (pg_ftp ci k) v) (hp : pc + 3 = nx) (kk : PW l g d mi nx lv st (ph.set a (.inr (ci, fs.set k v))) Q) : PW l g d mi pc lv (v :: .ref a :: st) ph Q := by
  subst hp
  intro p e R s m args below meth c H locs cells slots ls B1 B2 hC hR hS hl h1 h2 h3 h4 h5 h6
  have hC' := hC
  obtain ⟨hx, hb, hml, hrt, hown, hts, hlk, hnm, hK, hbs, hZ, hd1, hd2, hWs, hB⟩ := hC
  obtain ⟨C, T, N, hc, hk, hin, hlink, hfin⟩ := pg_fldp hcd
  obtain ⟨hty, hnms⟩ := pg_cls hc
  obtain ⟨hn, hfit⟩ := pm_fit_ok (g := g) hf
  have hap := va_apart (own := C) hts hin (pg_ftp ci) hty hnms hK hc
  obtain ⟨r, h7, cell, q1, q2, q3, q4⟩ := hR.2 a _ he
  have hr : r = (C, T, N) := Option.some.inj (h7.symm.trans hc)
  subst hr
  obtain ⟨hSl, hfc, kC, hkC, hkind⟩ := hK.1 ci _ hc
  obtain ⟨cf, kf, fi, f, hi, hsl⟩ := hSl k hk
  have hlay := hts _ (hin _ (u_in_lay hk))
  have hst := (u_facts hfc hkC (u_lays hts hin hk) hi).1
  have hmap : (fs.set k v).map (px_v g) = (fs.map (px_v g)).set k (px_v g v) := List.map_set
  have hl2 : k < (fs.map (px_v g)).length := by rw [List.length_map]; exact hl1
  have fin : ∀ H' : Heap, H'[px_b g + a]? = some (cell.setSlot (((px_D g).2 ci) k) (px_v g v)) → H'.size = H.size → (∀ q, q ≠ px_b g + a → H'[q]? = H[q]?) →
      W p l e R s m args below meth c H' (locs ++ [⟨px_b g + a, ((px_D g).2 ci) k⟩]) cells slots (px_E g below s B1 B2 Q) (F0 m (pc + 3) ls (st.map (px_v g))) := by
    intro H' e1 e2 e3
    refine kk p e R s m args below meth c H' _ cells slots ls B1 B2 hC' (hR.set he e2 e3 ?_) (hS.put e2 e3 (px_A_in g a)) hl (by rw [List.length_set]; exact h1) (by rw [px_sum_set (e' := .inr (ci, fs.set k v)) he rfl]; exact h2) (by rw [List.length_set]; exact h3) (by rw [px_sum_set (e' := .inr (ci, fs.set k v)) he rfl]; exact h4) h5 h6
    refine ⟨_, hc, ?_⟩
    show t_OB _ _ _ _ _ (vp_V ((fs.set k v).map (px_v g)))
    rw [hmap]
    exact t_OB.to (V := updV (vp_V (fs.map (px_v g))) k (px_v g v)) ⟨_, e1, q2, q3, t_set q4 hap hk (px_v g v)⟩ (fun j _ => vp_updV_set hl2 (px_v g v) j)
  by_cases hfn : (T k).2.2.2 = true
  · obtain ⟨hi1, hi2⟩ := hfin hfn
    unfold u_lay at hlay
    rw [if_pos hfn] at hlay
    have hcf : m.cls = cf := by
      obtain ⟨_, _, c', _, _, _, -, -, hf', -, -, -, hown2, -⟩ := Cond.laysFinal_spec hlay
      have e1 : c' = cf := by have := hi.symm.trans hf'; simp at this; exact this.1.symm
      rw [hi2] at hown2
      rw [← e1]; exact Option.some.inj (hown.symm.trans hown2)
    have h8 := u_fits hfc hkC hkind (Or.inr hlay) hi (hty k hk) hn hfit
    refine W.putFinK hx hb hown (hts _ hlink) hi hst hcf (by rw [hnm]; exact hi1) (by rw [q2]; exact h8) q1 q3 (by rw [hsl]; exact k2_hasslot (q4 k hk)) rfl rfl (pg_dec hcd) fun H' e1 e2 e3 => ?_
    rw [hsl] at e1 ⊢
    exact fin H' e1 e2 e3
  · unfold u_lay at hlay
    rw [if_neg hfn] at hlay
    have h8 := u_store hfc hkC hkind hlay hi (hty k hk) hn hfit
    refine W.putK hx hb (f := f) ⟨hown, hts _ hlink, ⟨_, _, _, hi⟩, hst⟩ (by rw [q2]; exact h8) q1 q3 (by rw [hsl]; exact k2_hasslot (q4 k hk)) rfl rfl (pg_dec hcd) fun H' e1 e2 e3 => ?_
    rw [hsl] at e1 ⊢
    exact fin H' e1 e2 e3
theorem px_alen {a t : Nat} {x : vp_A} {ty : FieldType} (hcd : pg_cd mi pc = some (.arraylength, nx, r1, r2)) (he : ph[a]? = some (.inl (t, x))) (ht : pg_ty[t]? = some ty) (hp : pc + 1 = nx) (kk : PW l g d mi nx lv (.int (nI x.1) :: st) ph Q) : PW l g d mi pc lv (.ref a :: st) ph Q := by
  subst hp
  intro p e R s m args below meth c H locs cells slots ls B1 B2 hC hR hS hl h1 h2 h3 h4 h5 h6
  have k1 := kk p e R s m args below meth c H locs cells slots ls B1 B2 hC hR hS hl h1 h2 h3 h4 h5 h6
  obtain ⟨hx, hb, hml, hrt, hown, hts, hlk, hnm, hK, hbs, hZ, hd1, hd2, hWs, hB⟩ := hC
  exact va_alen (ws := [(px_b g + a, .inl (px_ca g t, px_a g x))]) hx hb hK (hR.one he) 0 t rfl (px_tys_at ht) rfl (pg_dec hcd) k1
theorem px_clen {j : Nat} (hcd : pg_cd mi pc = some (.arraylength, nx, r1, r2)) (hj : j < pg_nc) (hp : pc + 1 = nx) (kk : PW l g d mi nx lv (.int (nI (px_ct g j).2.1) :: st) ph Q) : PW l g d mi pc lv (.retAddr j :: st) ph Q := by
  subst hp
  intro p e R s m args below meth c H locs cells slots ls B1 B2 hC hR hS hl h1 h2 h3 h4 h5 h6
  have k1 := kk p e R s m args below meth c H locs cells slots ls B1 B2 hC hR hS hl h1 h2 h3 h4 h5 h6
  obtain ⟨hx, hb, hml, hrt, hown, hts, hlk, hnm, hK, hbs, hZ, hd1, hd2, hWs, hB⟩ := hC
  exact va_tlen hx hb (hZ.1 j hj) hS rfl (pg_dec hcd) k1
theorem px_iald {a t n : Nat} {f : Nat → Int32} {i : Int32} (hcd : pg_cd mi pc = some (.iaload, nx, r1, r2)) (he : ph[a]? = some (.inl (t, n, .inl f))) (ht : pg_ty[t]? = some .int) (hin : vp_in i n) (hp : pc + 1 = nx) (kk : PW l g d mi nx lv (.int (f i.toNatClampNeg) :: st) ph Q) : PW l g d mi pc lv (.int i :: .ref a :: st) ph Q := by
  subst hp
  intro p e R s m args below meth c H locs cells slots ls B1 B2 hC hR hS hl h1 h2 h3 h4 h5 h6
  have k1 := kk p e R s m args below meth c H locs cells slots ls B1 B2 hC hR hS hl h1 h2 h3 h4 h5 h6
  obtain ⟨hx, hb, hml, hrt, hown, hts, hlk, hnm, hK, hbs, hZ, hd1, hd2, hWs, hB⟩ := hC
  exact va_iald (ws := [(px_b g + a, .inl (px_ca g t, n, .inl f))]) hx hb hK (hR.one he) 0 t rfl (px_tys_at ht) hin (pg_dec hcd) k1
theorem px_bald {a t n : Nat} {f : Nat → Int32} {i : Int32} (hcd : pg_cd mi pc = some (.baload, nx, r1, r2)) (he : ph[a]? = some (.inl (t, n, .inl f))) (ht : pg_ty[t]? = some .byte) (hin : vp_in i n) (hp : pc + 1 = nx) (kk : PW l g d mi nx lv (.int (f i.toNatClampNeg) :: st) ph Q) : PW l g d mi pc lv (.int i :: .ref a :: st) ph Q := by
  subst hp
  intro p e R s m args below meth c H locs cells slots ls B1 B2 hC hR hS hl h1 h2 h3 h4 h5 h6
  have k1 := kk p e R s m args below meth c H locs cells slots ls B1 B2 hC hR hS hl h1 h2 h3 h4 h5 h6
  obtain ⟨hx, hb, hml, hrt, hown, hts, hlk, hnm, hK, hbs, hZ, hd1, hd2, hWs, hB⟩ := hC
  exact va_bald (ws := [(px_b g + a, .inl (px_ca g t, n, .inl f))]) hx hb hK (hR.one he) 0 t rfl (px_tys_at ht) hin (pg_dec hcd) k1
theorem px_zald {a t n : Nat} {f : Nat → Int32} {i : Int32} (hcd : pg_cd mi pc = some (.baload, nx, r1, r2)) (he : ph[a]? = some (.inl (t, n, .inl f))) (ht : pg_ty[t]? = some .boolean) (hin : vp_in i n) (hp : pc + 1 = nx) (kk : PW l g d mi nx lv (.int (f i.toNatClampNeg) :: st) ph Q) : PW l g d mi pc lv (.int i :: .ref a :: st) ph Q := by
  subst hp
  intro p e R s m args below meth c H locs cells slots ls B1 B2 hC hR hS hl h1 h2 h3 h4 h5 h6
  have k1 := kk p e R s m args below meth c H locs cells slots ls B1 B2 hC hR hS hl h1 h2 h3 h4 h5 h6
  obtain ⟨hx, hb, hml, hrt, hown, hts, hlk, hnm, hK, hbs, hZ, hd1, hd2, hWs, hB⟩ := hC
  exact va_zald (ws := [(px_b g + a, .inl (px_ca g t, n, .inl f))]) hx hb hK (hR.one he) 0 t rfl (px_tys_at ht) hin (pg_dec hcd) k1
theorem px_lald {a t n : Nat} {f : Nat → Int64} {i : Int32} (hcd : pg_cd mi pc = some (.laload, nx, r1, r2)) (he : ph[a]? = some (.inl (t, n, .inr (.inl f)))) (ht : pg_ty[t]? = some .long) (hin : vp_in i n) (hp : pc + 1 = nx) (kk : PW l g d mi nx lv (.long (f i.toNatClampNeg) :: st) ph Q) : PW l g d mi pc lv (.int i :: .ref a :: st) ph Q := by
  subst hp
  intro p e R s m args below meth c H locs cells slots ls B1 B2 hC hR hS hl h1 h2 h3 h4 h5 h6
  have k1 := kk p e R s m args below meth c H locs cells slots ls B1 B2 hC hR hS hl h1 h2 h3 h4 h5 h6
  obtain ⟨hx, hb, hml, hrt, hown, hts, hlk, hnm, hK, hbs, hZ, hd1, hd2, hWs, hB⟩ := hC
  exact va_lald (ws := [(px_b g + a, .inl (px_ca g t, n, .inr (.inl f)))]) hx hb hK (hR.one he) 0 t rfl (px_tys_at ht) hin (pg_dec hcd) k1
theorem px_rf (g : px_G) (o : Option Nat) : va_rf (o.map (fun k => px_b g + k)) = px_v g (va_rf o) := by cases o <;> rfl
theorem px_aald {a t n : Nat} {f : Nat → Option Nat} {i : Int32} {C : String} (hcd : pg_cd mi pc = some (.aaload, nx, r1, r2)) (he : ph[a]? = some (.inl (t, n, .inr (.inr (.inr (.inr f)))))) (ht : pg_ty[t]? = some (.object C)) (hin : vp_in i n) (hp : pc + 1 = nx) (kk : PW l g d mi nx lv (va_rf (f i.toNatClampNeg) :: st) ph Q) : PW l g d mi pc lv (.int i :: .ref a :: st) ph Q := by
  subst hp
  intro p e R s m args below meth c H locs cells slots ls B1 B2 hC hR hS hl h1 h2 h3 h4 h5 h6
  have k1 := kk p e R s m args below meth c H locs cells slots ls B1 B2 hC hR hS hl h1 h2 h3 h4 h5 h6
  obtain ⟨hx, hb, hml, hrt, hown, hts, hlk, hnm, hK, hbs, hZ, hd1, hd2, hWs, hB⟩ := hC
  refine va_aldq (ws := [(px_b g + a, .inl (px_ca g t, n, .inr (.inr (.inr (.inr (px_f g f))))))]) hx hb hK (hR.one he) 0 t rfl (px_tys_at ht) hin (pg_dec hcd) ?_
  rw [List.map_cons] at k1
  show W p l e R s m args below meth c H locs cells slots _ (F0 m (pc + 1) ls (va_rf ((f i.toNatClampNeg).map (fun k => px_b g + k)) :: st.map (px_v g)))
  rw [px_rf]
  exact k1
theorem px_cild {j : Nat} {i : Int32} (hcd : pg_cd mi pc = some (.iaload, nx, r1, r2)) (hj : j < pg_nc) (ht : (px_ct g j).1 = .int) (hin : vp_in i (px_ct g j).2.1) (hp : pc + 1 = nx) (kk : PW l g d mi nx lv (.int ((px_ct g j).2.2 i.toNatClampNeg) :: st) ph Q) : PW l g d mi pc lv (.int i :: .retAddr j :: st) ph Q := by
  subst hp
  intro p e R s m args below meth c H locs cells slots ls B1 B2 hC hR hS hl h1 h2 h3 h4 h5 h6
  have k1 := kk p e R s m args below meth c H locs cells slots ls B1 B2 hC hR hS hl h1 h2 h3 h4 h5 h6
  obtain ⟨hx, hb, hml, hrt, hown, hts, hlk, hnm, hK, hbs, hZ, hd1, hd2, hWs, hB⟩ := hC
  have hT := hZ.1 j hj
  rw [ht] at hT
  exact va_ti hx hb hT hS hin rfl (pg_dec hcd) k1
theorem px_cbld {j : Nat} {i : Int32} (hcd : pg_cd mi pc = some (.baload, nx, r1, r2)) (hj : j < pg_nc) (ht : (px_ct g j).1 = .byte) (hin : vp_in i (px_ct g j).2.1) (hp : pc + 1 = nx) (kk : PW l g d mi nx lv (.int ((px_ct g j).2.2 i.toNatClampNeg) :: st) ph Q) : PW l g d mi pc lv (.int i :: .retAddr j :: st) ph Q := by
  subst hp
  intro p e R s m args below meth c H locs cells slots ls B1 B2 hC hR hS hl h1 h2 h3 h4 h5 h6
  have k1 := kk p e R s m args below meth c H locs cells slots ls B1 B2 hC hR hS hl h1 h2 h3 h4 h5 h6
  obtain ⟨hx, hb, hml, hrt, hown, hts, hlk, hnm, hK, hbs, hZ, hd1, hd2, hWs, hB⟩ := hC
  have hT := hZ.1 j hj
  rw [ht] at hT
  exact va_tb hx hb hT hS hin rfl (pg_dec hcd) k1
-- stores into an array: what all have in common
theorem px_stored {p : Program} {e : Env} {R : Room} {s : State} {m : MethodId} {args : Array Value} {below : List Frame} {meth : Method} {c : Code} {H H' : Heap} {locs : List Loc} {cells slots : Nat} {ls : Array Slot} {B1 B2 a t n pc' q : Nat} {x x' : (Nat → Int32) ⊕ (Nat → Int64) ⊕ (Nat → UInt32) ⊕ (Nat → UInt64) ⊕ (Nat → Option Nat)}
    (hC : px_C g d mi p R s m args meth c) (hR : px_R g ph H) (hS : va_S (px_A g) s.heap H locs) (hl : lv_has ls (pg_ml mi) (px_l g lv)) (h1 : cells + B1 = ph.length) (h2 : slots + B2 = px_sum ph) (h3 : ph.length ≤ pg_MC) (h4 : px_sum ph ≤ pg_MS) (h5 : pg_MC ≤ R.cells + B1) (h6 : pg_MS ≤ R.slots + B2)
    (he : ph[a]? = some (.inl (t, n, x))) (e1 : H'[px_b g + a]? = some (vp_cell (px_ca g t) (px_a g (n, x')))) (e2 : H'.size = H.size) (e3 : ∀ z, z ≠ px_b g + a → H'[z]? = H[z]?)
    (kk : PW l g d mi pc' lv st (ph.set a (.inl (t, n, x'))) Q) : W p l e R s m args below meth c H' (locs ++ [⟨px_b g + a, q⟩]) cells slots (px_E g below s B1 B2 Q) (F0 m pc' ls (st.map (px_v g))) :=
  kk p e R s m args below meth c H' _ cells slots ls B1 B2 hC (hR.set he e2 e3 e1) (hS.put e2 e3 (px_A_in g a)) hl (by rw [List.length_set]; exact h1) (by rw [px_sum_set (e' := .inl (t, n, x')) he rfl]; exact h2) (by rw [List.length_set]; exact h3) (by rw [px_sum_set (e' := .inl (t, n, x')) he rfl]; exact h4) h5 h6
theorem px_iast {a t n : Nat} {f : Nat → Int32} {i x : Int32} (hcd : pg_cd mi pc = some (.iastore, nx, r1, r2)) (he : ph[a]? = some (.inl (t, n, .inl f))) (ht : pg_ty[t]? = some .int) (hin : vp_in i n) (hp : pc + 1 = nx) (kk : PW l g d mi nx lv st (ph.set a (.inl (t, n, .inl (upd f i.toNatClampNeg x)))) Q) : PW l g d mi pc lv (.int x :: .int i :: .ref a :: st) ph Q := by
  subst hp
  intro p e R s m args below meth c H locs cells slots ls B1 B2 hC hR hS hl h1 h2 h3 h4 h5 h6
  have hK : px_K g s := hC.2.2.2.2.2.2.2.2.1
  refine W.iast hC.1 hC.2.1 (hR.2 a _ he) ((hK.2 t _ (px_tys_at ht)).1 n (fun j => .int (f j))) (fun q => by cases q) (by show ¬ (i < 0 ∨ (arrV _ _ _).slots.size ≤ _); rw [arrV_size]; exact hin) rfl rfl (pg_dec hcd) fun H1 e1 z oq => ?_
  refine px_stored hC hR hS hl h1 h2 h3 h4 h5 h6 he ?_ z oq kk
  rw [e1]
  show some ((arrV (px_ca g t) n (fun j => .int (f j))).setSlot _ _) = some (arrV (px_ca g t) n (fun j => .int (upd f i.toNatClampNeg x j)))
  rw [arrV_store]
  congr 2
  funext q
  by_cases hq : q = i.toNatClampNeg
  · subst hq; simp [updV, upd]
  · simp [updV, upd, hq]
theorem px_bast {a t n : Nat} {f : Nat → Int32} {i x : Int32} (hcd : pg_cd mi pc = some (.bastore, nx, r1, r2)) (he : ph[a]? = some (.inl (t, n, .inl f))) (ht : pg_ty[t]? = some .byte) (hin : vp_in i n) (hp : pc + 1 = nx) (kk : PW l g d mi nx lv st (ph.set a (.inl (t, n, .inl (upd f i.toNatClampNeg x.toInt8.toInt32)))) Q) : PW l g d mi pc lv (.int x :: .int i :: .ref a :: st) ph Q := by
  subst hp
  intro p e R s m args below meth c H locs cells slots ls B1 B2 hC hR hS hl h1 h2 h3 h4 h5 h6
  have hK : px_K g s := hC.2.2.2.2.2.2.2.2.1
  refine W.bast hC.1 hC.2.1 (hR.2 a _ he) ((hK.2 t _ (px_tys_at ht)).1 n (fun j => .int (f j))) (fun q => by cases q) (by show ¬ (i < 0 ∨ (arrV _ _ _).slots.size ≤ _); rw [arrV_size]; exact hin) rfl rfl (pg_dec hcd) fun H1 e1 z oq => ?_
  refine px_stored hC hR hS hl h1 h2 h3 h4 h5 h6 he ?_ z oq kk
  rw [e1]
  show some ((arrV (px_ca g t) n (fun j => .int (f j))).setSlot _ _) = some (arrV (px_ca g t) n (fun j => .int (upd f i.toNatClampNeg x.toInt8.toInt32 j)))
  rw [arrV_store]
  congr 2
  funext q
  by_cases hq : q = i.toNatClampNeg
  · subst hq; simp [updV, upd, narrow]
  · simp [updV, upd, hq]
theorem px_zast {a t n : Nat} {f : Nat → Int32} {i x : Int32} (hcd : pg_cd mi pc = some (.bastore, nx, r1, r2)) (he : ph[a]? = some (.inl (t, n, .inl f))) (ht : pg_ty[t]? = some .boolean) (hin : vp_in i n) (hp : pc + 1 = nx) (kk : PW l g d mi nx lv st (ph.set a (.inl (t, n, .inl (upd f i.toNatClampNeg (x &&& 1))))) Q) : PW l g d mi pc lv (.int x :: .int i :: .ref a :: st) ph Q := by
  subst hp
  intro p e R s m args below meth c H locs cells slots ls B1 B2 hC hR hS hl h1 h2 h3 h4 h5 h6
  have hK : px_K g s := hC.2.2.2.2.2.2.2.2.1
  refine W.zast hC.1 hC.2.1 (hR.2 a _ he) ((hK.2 t _ (px_tys_at ht)).1 n (fun j => .int (f j))) (fun q => by cases q) (by show ¬ (i < 0 ∨ (arrV _ _ _).slots.size ≤ _); rw [arrV_size]; exact hin) rfl rfl (pg_dec hcd) fun H1 e1 z oq => ?_
  refine px_stored hC hR hS hl h1 h2 h3 h4 h5 h6 he ?_ z oq kk
  rw [e1]
  show some ((arrV (px_ca g t) n (fun j => .int (f j))).setSlot _ _) = some (arrV (px_ca g t) n (fun j => .int (upd f i.toNatClampNeg (x &&& 1) j)))
  rw [arrV_store]
  congr 2
  funext q
  by_cases hq : q = i.toNatClampNeg
  · subst hq; simp [updV, upd, narrow]
  · simp [updV, upd, hq]
theorem px_last {a t n : Nat} {f : Nat → Int64} {i : Int32} {x : Int64} (hcd : pg_cd mi pc = some (.lastore, nx, r1, r2)) (he : ph[a]? = some (.inl (t, n, .inr (.inl f)))) (ht : pg_ty[t]? = some .long) (hin : vp_in i n) (hp : pc + 1 = nx) (kk : PW l g d mi nx lv st (ph.set a (.inl (t, n, .inr (.inl (vp_updL f i.toNatClampNeg x))))) Q) : PW l g d mi pc lv (.long x :: .int i :: .ref a :: st) ph Q := by
  subst hp
  intro p e R s m args below meth c H locs cells slots ls B1 B2 hC hR hS hl h1 h2 h3 h4 h5 h6
  have hK : px_K g s := hC.2.2.2.2.2.2.2.2.1
  refine W.last hC.1 hC.2.1 (hR.2 a _ he) ((hK.2 t _ (px_tys_at ht)).1 n (fun j => .long (f j))) (fun q => by cases q) (by show ¬ (i < 0 ∨ (arrV _ _ _).slots.size ≤ _); rw [arrV_size]; exact hin) rfl rfl (pg_dec hcd) fun H1 e1 z oq => ?_
  refine px_stored hC hR hS hl h1 h2 h3 h4 h5 h6 he ?_ z oq kk
  rw [e1]
  show some ((arrV (px_ca g t) n (fun j => .long (f j))).setSlot _ _) = some (arrV (px_ca g t) n (fun j => .long (vp_updL f i.toNatClampNeg x j)))
  rw [arrV_store]
  congr 2
  funext q
  by_cases hq : q = i.toNatClampNeg
  · subst hq; simp [updV, vp_updL]
  · simp [updV, vp_updL, hq]
theorem px_aast {a t n w ci : Nat} {f : Nat → Option Nat} {i : Int32} {fs : List Value} {C : String} {T : u_T} {N : Nat} (hcd : pg_cd mi pc = some (.aastore, nx, r1, r2)) (he : ph[a]? = some (.inl (t, n, .inr (.inr (.inr (.inr f)))))) (ht : pg_ty[t]? = some (.object C)) (hw : ph[w]? = some (.inr (ci, fs))) (hc : pg_cl[ci]? = some (C, T, N)) (hin : vp_in i n) (hp : pc + 1 = nx) (kk : PW l g d mi nx lv st (ph.set a (.inl (t, n, .inr (.inr (.inr (.inr (va_up f i.toNatClampNeg (some w)))))))) Q) : PW l g d mi pc lv (.ref w :: .int i :: .ref a :: st) ph Q := by
  subst hp
  intro p e R s m args below meth c H locs cells slots ls B1 B2 hC hR hS hl h1 h2 h3 h4 h5 h6
  have hK : px_K g s := hC.2.2.2.2.2.2.2.2.1
  have hlt : i.toNatClampNeg < n := Nat.not_le.mp fun q => hin (Or.inr q)
  have h0 : ¬ i < 0 := fun q => hin (Or.inl q)
  obtain ⟨r', hr', cellV, g1, g2, g3, -⟩ := hR.2 w _ hw
  have hcls := (hK.1 ci _ hc).2
  obtain ⟨kA, comp, k1, k2, k3, -⟩ := (hK.2 t _ (px_tys_at ht)).2
  have hcomp : comp = (px_D g).1 ci := Option.some.inj (k3.symm.trans hcls.1)
  subst hcomp
  obtain ⟨kC, hkC, -⟩ := hcls.2
  refine W.aast hC.1 hC.2.1 (hR.2 a _ he) (fun q h => by cases h) (fun h => by cases h) k1 k2 rfl hkC ⟨h0, by show _ < (arrV _ _ _).slots.size; rw [arrV_size]; exact hlt⟩ g1 (fun q h => by rw [g3] at h; cases h) (by rw [g2]; exact hkC) (by rw [g2]; exact va_assign hcls) rfl rfl (pg_dec hcd) fun H1 e1 z oq => ?_
  refine px_stored hC hR hS hl h1 h2 h3 h4 h5 h6 he ?_ z oq kk
  rw [e1]
  show some ((arrV (px_ca g t) n (fun j => va_rf (px_f g f j))).setSlot _ _) = some (arrV (px_ca g t) n (fun j => va_rf (px_f g (va_up f i.toNatClampNeg (some w)) j)))
  rw [arrV_store]
  congr 2
  funext q
  by_cases hq : q = i.toNatClampNeg
  · subst hq; simp [updV, va_up, va_rf, px_f]
  · simp [updV, va_up, hq, px_f]
theorem px_aastN {a t n : Nat} {f : Nat → Option Nat} {i : Int32} {C : String} (hcd : pg_cd mi pc = some (.aastore, nx, r1, r2)) (he : ph[a]? = some (.inl (t, n, .inr (.inr (.inr (.inr f)))))) (ht : pg_ty[t]? = some (.object C)) (hin : vp_in i n) (hp : pc + 1 = nx) (kk : PW l g d mi nx lv st (ph.set a (.inl (t, n, .inr (.inr (.inr (.inr (va_up f i.toNatClampNeg none))))))) Q) : PW l g d mi pc lv (.null :: .int i :: .ref a :: st) ph Q := by
  subst hp
  intro p e R s m args below meth c H locs cells slots ls B1 B2 hC hR hS hl h1 h2 h3 h4 h5 h6
  have hK : px_K g s := hC.2.2.2.2.2.2.2.2.1
  refine va_WaastN (C := C) hC.1 hC.2.1 (hR.2 a _ he) ((hK.2 t _ (px_tys_at ht)).1 n (fun j => va_rf (px_f g f j))) (fun h => by cases h) (by show ¬ (i < 0 ∨ (arrV _ _ _).slots.size ≤ _); rw [arrV_size]; exact hin) rfl rfl (pg_dec hcd) fun H1 e1 z oq => ?_
  refine px_stored hC hR hS hl h1 h2 h3 h4 h5 h6 he ?_ z oq kk
  rw [e1]
  show some ((arrV (px_ca g t) n (fun j => va_rf (px_f g f j))).setSlot _ _) = some (arrV (px_ca g t) n (fun j => va_rf (px_f g (va_up f i.toNatClampNeg none) j)))
  rw [arrV_store]
  congr 2
  funext q
  by_cases hq : q = i.toNatClampNeg
  · subst hq; simp [updV, va_up, va_rf, px_f]
  · simp [updV, va_up, hq, px_f]
end PXH
end
section
/-! making cells, constants, returns -/
theorem px_sum_push (ph : px_H) (e : px_PE) : px_sum (ph ++ [e]) = px_sum ph + px_sz e := by simp [px_sum]
theorem px_def (g : px_G) (ty : FieldType) : px_v g (defaultValue ty) = defaultValue ty := by cases ty <;> rfl
/-- the fields of a new object -/
def px_nf (ci N : Nat) : List Value := (List.range N).map (fun k => defaultValue (pg_ftp ci k))
theorem px_nf_at (g : px_G) (ci N j : Nat) (hj : j < N) : defaultValue (pg_ftp ci j) = vp_V ((px_nf ci N).map (px_v g)) j := by
  simp [vp_V, px_nf, List.getD_eq_getElem?_getD, List.getElem?_map, List.getElem?_range hj, px_def]
section PXN
variable {l : Launch} {g : px_G} {d mi pc : Nat} {lv : px_L} {st : List Value} {ph : px_H} {Q : px_Q} {len nx r1 r2 : Nat}
theorem px_new {idx ci : Nat} {C : String} {T : u_T} {N : Nat} (hcd : pg_cd mi pc = some (.new idx, nx, ci, r2)) (hc : pg_cl[ci]? = some (C, T, N)) (hm : ph.length < pg_MC) (hs : px_sum ph + pg_in ci ≤ pg_MS) (hp : pc + 3 = nx) (kk : PW l g d mi nx lv (.ref ph.length :: st) (ph ++ [.inr (ci, px_nf ci N)]) Q) : PW l g d mi pc lv st ph Q := by
  subst hp
  intro p e R s m args below meth c H locs cells slots ls B1 B2 hC hR hS hl h1 h2 h3 h4 h5 h6
  have hC' := hC
  obtain ⟨hx, hb, hml, hrt, hown, hts, hlk, hnm, hK, hbs, hZ, hd1, hd2, hWs, hB⟩ := hC
  obtain ⟨hcl, hinst, hini⟩ := pg_new hcd hc
  obtain ⟨hty, hnms⟩ := pg_cls hc
  have hin := pg_cin hc
  have hKn := hK.1 ci _ hc
  refine W.newcK hx hb hown (hts _ hcl) (hts _ hinst) (hts _ hini) rfl (pg_dec hcd) (by omega) (by omega) hKn.2.1 hR.1 fun H1 kC hkC e1 z1 o1 => ?_
  refine kk p e R s m args below meth c H1 locs (cells + 1) (slots + pg_in ci) ls B1 B2 hC' (hR.push (by rw [z1, hR.1]) (fun q hq => o1 q (by rw [← hR.1]; exact hq)) ?_) ⟨Nat.le_trans hS.1 (by rw [z1, hR.1]; omega), fun x g1 g2 => (o1 x (by rw [← hR.1]; exact Nat.lt_of_lt_of_le g1 hS.1)).trans (hS.2.1 x g1 g2), hS.2.2⟩ hl (by simp; omega) (by rw [px_sum_push]; show _ = _ + pg_in ci; omega) (by simp; omega) (by rw [px_sum_push]; exact hs) h5 h6
  exact ⟨_, hc, (u_born (pg_ftp ci) hts hin hKn hkC e1 hty).to (fun j hj => px_nf_at g ci N j hj)⟩
theorem px_newI {at_ : ArrayType} {t : Nat} {ty : FieldType} {n : Int32} {N : Nat} (hcd : pg_cd mi pc = some (.newarray at_, nx, t, r2)) (ht : pg_ty[t]? = some ty) (hty : newarray.typeOf at_ = ty) (hk : ty = .int ∨ ty = .byte ∨ ty = .boolean) (hn : ¬ n < 0) (hN : n.toNatClampNeg = N) (hN2 : N ≤ 1000000) (hm : ph.length < pg_MC) (hs : px_sum ph + N ≤ pg_MS)
    (hp : pc + 2 = nx) (kk : PW l g d mi nx lv (.ref ph.length :: st) (ph ++ [.inl (t, N, .inl (fun _ => 0))]) Q) : PW l g d mi pc lv (.int n :: st) ph Q := by
  subst hp
  intro p e R s m args below meth c H locs cells slots ls B1 B2 hC hR hS hl h1 h2 h3 h4 h5 h6
  have hC' := hC
  obtain ⟨hx, hb, hml, hrt, hown, hts, hlk, hnm, hK, hbs, hZ, hd1, hd2, hWs, hB⟩ := hC
  have hcb : N * componentBytes (newarray.typeOf at_) ≤ 536870912 := by
    rw [hty]
    rcases hk with rfl | rfl | rfl
    · show N * 4 ≤ _; omega
    · show N * 1 ≤ _; omega
    · show N * 1 ≤ _; omega
  refine va_newaK hx hb (hts _ (pg_arr hcd)) rfl (pg_dec hcd) rfl hn hN hcb (by omega) (by omega) hR.1 fun H1 cA e1 z1 o1 hAr hNm => ?_
  have hcA : cA = px_ca g t := by
    have h7 := (hK.2 t _ (px_tys_at ht)).2
    rw [hty] at hNm
    rcases hk with rfl | rfl | rfl <;> exact Option.some.inj (hNm.symm.trans h7)
  subst hcA
  refine kk p e R s m args below meth c H1 locs (cells + 1) (slots + N) ls B1 B2 hC' (hR.push (by rw [z1, hR.1]) (fun q hq => o1 q (by rw [← hR.1]; exact hq)) ?_) ⟨Nat.le_trans hS.1 (by rw [z1, hR.1]; omega), fun x g1 g2 => (o1 x (by rw [← hR.1]; exact Nat.lt_of_lt_of_le g1 hS.1)).trans (hS.2.1 x g1 g2), hS.2.2⟩ hl (by simp; omega) (by rw [px_sum_push]; show _ = _ + N; omega) (by simp; omega) (by rw [px_sum_push]; exact hs) h5 h6
  show H1[px_b g + ph.length]? = some (arrV (px_ca g t) N (fun _ => .int 0))
  rw [e1, hty]
  rcases hk with rfl | rfl | rfl <;> rfl
theorem px_newL {t : Nat} {n : Int32} {N : Nat} (hcd : pg_cd mi pc = some (.newarray .long, nx, t, r2)) (ht : pg_ty[t]? = some .long) (hn : ¬ n < 0) (hN : n.toNatClampNeg = N) (hN2 : N ≤ 1000000) (hm : ph.length < pg_MC) (hs : px_sum ph + N ≤ pg_MS)
    (hp : pc + 2 = nx) (kk : PW l g d mi nx lv (.ref ph.length :: st) (ph ++ [.inl (t, N, .inr (.inl (fun _ => 0)))]) Q) : PW l g d mi pc lv (.int n :: st) ph Q := by
  subst hp
  intro p e R s m args below meth c H locs cells slots ls B1 B2 hC hR hS hl h1 h2 h3 h4 h5 h6
  have hC' := hC
  obtain ⟨hx, hb, hml, hrt, hown, hts, hlk, hnm, hK, hbs, hZ, hd1, hd2, hWs, hB⟩ := hC
  refine va_newaK hx hb (hts _ (pg_arr hcd)) rfl (pg_dec hcd) rfl hn hN (by show N * 8 ≤ _; omega) (by omega) (by omega) hR.1 fun H1 cA e1 z1 o1 hAr hNm => ?_
  have hcA : cA = px_ca g t := Option.some.inj (hNm.symm.trans (hK.2 t _ (px_tys_at ht)).2)
  subst hcA
  refine kk p e R s m args below meth c H1 locs (cells + 1) (slots + N) ls B1 B2 hC' (hR.push (by rw [z1, hR.1]) (fun q hq => o1 q (by rw [← hR.1]; exact hq)) ?_) ⟨Nat.le_trans hS.1 (by rw [z1, hR.1]; omega), fun x g1 g2 => (o1 x (by rw [← hR.1]; exact Nat.lt_of_lt_of_le g1 hS.1)).trans (hS.2.1 x g1 g2), hS.2.2⟩ hl (by simp; omega) (by rw [px_sum_push]; show _ = _ + N; omega) (by simp; omega) (by rw [px_sum_push]; exact hs) h5 h6
  exact e1
theorem px_anew {idx t : Nat} {C : String} {n : Int32} {N : Nat} (hcd : pg_cd mi pc = some (.anewarray idx, nx, t, r2)) (ht : pg_ty[t]? = some (.object C)) (hn : ¬ n < 0) (hN : n.toNatClampNeg = N) (hN2 : N ≤ 1000000) (hm : ph.length < pg_MC) (hs : px_sum ph + N ≤ pg_MS)
    (hp : pc + 3 = nx) (kk : PW l g d mi nx lv (.ref ph.length :: st) (ph ++ [.inl (t, N, .inr (.inr (.inr (.inr (fun _ => none)))))]) Q) : PW l g d mi pc lv (.int n :: st) ph Q := by
  subst hp
  intro p e R s m args below meth c H locs cells slots ls B1 B2 hC hR hS hl h1 h2 h3 h4 h5 h6
  have hC' := hC
  obtain ⟨hx, hb, hml, hrt, hown, hts, hlk, hnm, hK, hbs, hZ, hd1, hd2, hWs, hB⟩ := hC
  obtain ⟨hcl, hov⟩ := pg_arrq hcd ht
  subst hN
  refine W.anew hx hb hown (hts _ hcl) (va_AO.use (hWs.2 _ hov)) rfl (pg_dec hcd) rfl hn (by omega) (by omega) (by omega) fun cA kA comp f1 f2 f3 f4 => ?_
  obtain ⟨kA', comp', k1, k2, k3, k4⟩ := (hK.2 t _ (px_tys_at ht)).2
  have hcA : cA = px_ca g t := Option.some.inj (f1.symm.trans k4)
  subst hcA
  generalize hH1 : H.push ({ cls := px_ca g t, slots := Array.replicate n.toNatClampNeg .null, vm := .none } : Cell) = H1
  have z1 : H1.size = H.size + 1 := by rw [← hH1, Array.size_push]
  have e1 : H1[H.size]? = some (arrV (px_ca g t) n.toNatClampNeg (fun _ => .null)) := by rw [← hH1, Array.getElem?_push_size, ← arrV_new]
  have o1 : ∀ q : Nat, q < H.size → H1[q]? = H[q]? := fun q hq => by rw [← hH1, Array.getElem?_push, if_neg (Nat.ne_of_lt hq)]
  rw [hR.1]
  refine kk p e R s m args below meth c H1 locs (cells + 1) (slots + n.toNatClampNeg) ls B1 B2 hC' (hR.push z1 o1 ?_) ⟨Nat.le_trans hS.1 (by omega), fun x g1 g2 => (o1 x (Nat.lt_of_lt_of_le g1 hS.1)).trans (hS.2.1 x g1 g2), hS.2.2⟩ hl (by simp; omega) (by rw [px_sum_push]; show _ = _ + n.toNatClampNeg; omega) (by simp; omega) (by rw [px_sum_push]; exact hs) h5 h6
  show H1[px_b g + ph.length]? = some (arrV (px_ca g t) n.toNatClampNeg (fun _ => .null))
  rw [← hR.1, e1]
theorem px_gets {idx j : Nat} (hcd : pg_cd mi pc = some (.getstatic idx, nx, j, r2)) (hp : pc + 3 = nx) (kk : PW l g d mi nx lv (.retAddr j :: st) ph Q) : PW l g d mi pc lv st ph Q := by
  subst hp
  intro p e R s m args below meth c H locs cells slots ls B1 B2 hC hR hS hl h1 h2 h3 h4 h5 h6
  have k1 := kk p e R s m args below meth c H locs cells slots ls B1 B2 hC hR hS hl h1 h2 h3 h4 h5 h6
  obtain ⟨hx, hb, hml, hrt, hown, hts, hlk, hnm, hK, hbs, hZ, hd1, hd2, hWs, hB⟩ := hC
  obtain ⟨C, n, ds, hq, hlink⟩ := pg_gst hcd
  rcases hlink with hlink | ⟨host, hlink⟩
  · exact va_gets hx hb (hZ.2 _ hq) hS hown (hts _ hlink) (fun _ h => h) (pg_dec hcd) k1
  · exact va_getsN hx hb (hZ.2 _ hq) hS hown (va_Nw.use (by rfl) (hWs.1 _ hlink)) (fun _ h => h) (pg_dec hcd) k1
theorem px_ldc {idx : Nat} {v : Int32} (hcd : pg_cd mi pc = some (.ldc idx, nx, r1, r2)) (h9 : ¬ r2 = 1) (hv : pg_ki[r1]? = some v) (hp : pc + 2 = nx) (kk : PW l g d mi nx lv (.int v :: st) ph Q) : PW l g d mi pc lv st ph Q := by
  subst hp
  intro p e R s m args below meth c H locs cells slots ls B1 B2 hC hR hS hl h1 h2 h3 h4 h5 h6
  have k1 := kk p e R s m args below meth c H locs cells slots ls B1 B2 hC hR hS hl h1 h2 h3 h4 h5 h6
  obtain ⟨hx, hb, hml, hrt, hown, hts, hlk, hnm, hK, hbs, hZ, hd1, hd2, hWs, hB⟩ := hC
  exact lv_ldc hx hb hown (hts _ (pg_ldc hcd h9 hv)) (pg_dec hcd) k1
theorem px_ldcw {idx : Nat} {v : Int32} (hcd : pg_cd mi pc = some (.ldc_w idx, nx, r1, r2)) (h9 : ¬ r2 = 1) (hv : pg_ki[r1]? = some v) (hp : pc + 3 = nx) (kk : PW l g d mi nx lv (.int v :: st) ph Q) : PW l g d mi pc lv st ph Q := by
  subst hp
  intro p e R s m args below meth c H locs cells slots ls B1 B2 hC hR hS hl h1 h2 h3 h4 h5 h6
  have k1 := kk p e R s m args below meth c H locs cells slots ls B1 B2 hC hR hS hl h1 h2 h3 h4 h5 h6
  obtain ⟨hx, hb, hml, hrt, hown, hts, hlk, hnm, hK, hbs, hZ, hd1, hd2, hWs, hB⟩ := hC
  exact lv_ldcw hx hb hown (hts _ (pg_ldcw hcd h9 hv)) (pg_dec hcd) k1
theorem px_ldc2 {idx : Nat} {v : Int64} (hcd : pg_cd mi pc = some (.ldc2_w idx, nx, r1, r2)) (hv : pg_kl[r1]? = some v) (hp : pc + 3 = nx) (kk : PW l g d mi nx lv (.long v :: st) ph Q) : PW l g d mi pc lv st ph Q := by
  subst hp
  intro p e R s m args below meth c H locs cells slots ls B1 B2 hC hR hS hl h1 h2 h3 h4 h5 h6
  have k1 := kk p e R s m args below meth c H locs cells slots ls B1 B2 hC hR hS hl h1 h2 h3 h4 h5 h6
  obtain ⟨hx, hb, hml, hrt, hown, hts, hlk, hnm, hK, hbs, hZ, hd1, hd2, hWs, hB⟩ := hC
  exact lv_ldc2 hx hb hown (hts _ (pg_ldc2 hcd hv)) (pg_dec hcd) k1
-- returns
theorem px_end {s T t : State} {H : Heap} {locs : List Loc} {cells slots : Nat} {B1 B2 : Nat} {r : Option Value} (hT : T.heap = H) (ht : t.heap = T.heap) (hR : px_R g ph H) (hS : va_S (px_A g) s.heap H locs) (h1 : cells + B1 = ph.length) (h2 : slots + B2 = px_sum ph) (h3 : ph.length ≤ pg_MC) (h4 : px_sum ph ≤ pg_MS)
    (hW : s.WarmedH t.vm) (hF : s.sameButNew ({ t with vm := s.vm } : State) locs cells slots) (hq : Q (.inl r) ph) : px_O g B1 B2 Q s (.returned (r.map (px_v g))) t :=
  ⟨ph, locs, cells, slots, hW, hF, hS.2.2, h1, h2, h3, h4, by rw [ht, hT]; exact hR, hS.F (by rw [ht, hT]), Or.inl ⟨r, rfl, hq⟩⟩
theorem px_iret {x : Int32} (hcd : pg_cd mi pc = some (.ireturn, nx, r1, r2)) (hrt : pg_rt mi = some .int ∨ (pg_rt mi = some .boolean ∧ (x = 0 ∨ x = 1))) (hp : pc + 1 = nx) (hq : Q (.inl (some (.int x))) ph) : PW l g d mi pc lv [.int x] ph Q := by
  subst hp
  intro p e R s m args below meth c H locs cells slots ls B1 B2 hC hR hS hl h1 h2 h3 h4 h5 h6
  intro T hT X
  obtain ⟨hx, hb, hml, hr, hown, hts, hlocks, hnm, hK, hbs, hZ, hd1, hd2, hWs, hB⟩ := hC
  have hdg := pg_dec hcd
  obtain ⟨fs, hret, hrun, hended, hW, hframe⟩ := X.leave (v := some (.int x)) (fun h => by rcases hrt with h7 | h7 <;> (rw [hr] at h; first | (rw [h7] at h; cases h) | (rw [h7.1] at h; cases h))) hlocks
  have hmeth' : T.vm.method? m = some meth := X.method'
  refine ⟨T.setFrames fs, ?_, .returned (some (.int x)), hrun, hended, px_end (r := some (.int x)) hT rfl hR hS h1 h2 h3 h4 hW hframe hq⟩
  rcases hrt with h7 | ⟨h7, h8⟩
  · rw [h7] at hr
    jvm_step X.here [X.here.top, hx, hb, hdg, hmeth', hr, narrow, px_v]
    (try refine ⟨rfl, ?_⟩); (try refine ⟨rfl, ?_⟩)
    first | (intro acts; rw [hret _ acts rfl rfl rfl]) | rw [hret _ _ rfl rfl rfl]
    exact Steps.refl _
  · rw [h7] at hr
    have hn : narrow .boolean (.int x) = .int x := by rcases h8 with rfl | rfl <;> rfl
    jvm_step X.here [X.here.top, hx, hb, hdg, hmeth', hr, hn, px_v]
    (try refine ⟨rfl, ?_⟩); (try refine ⟨rfl, ?_⟩)
    first | (intro acts; rw [hret _ acts rfl rfl rfl]) | rw [hret _ _ rfl rfl rfl]
    exact Steps.refl _
theorem px_lret {x : Int64} (hcd : pg_cd mi pc = some (.lreturn, nx, r1, r2)) (hrt : pg_rt mi = some .long) (hp : pc + 1 = nx) (hq : Q (.inl (some (.long x))) ph) : PW l g d mi pc lv [.long x] ph Q := by
  subst hp
  intro p e R s m args below meth c H locs cells slots ls B1 B2 hC hR hS hl h1 h2 h3 h4 h5 h6
  intro T hT X
  obtain ⟨hx, hb, hml, hr, hown, hts, hlocks, hnm, hK, hbs, hZ, hd1, hd2, hWs, hB⟩ := hC
  have hdg := pg_dec hcd
  rw [hrt] at hr
  obtain ⟨fs, hret, hrun, hended, hW, hframe⟩ := X.leave (v := some (.long x)) (fun h => by rw [hr] at h; cases h) hlocks
  have hmeth' : T.vm.method? m = some meth := X.method'
  refine ⟨T.setFrames fs, ?_, .returned (some (.long x)), hrun, hended, px_end (r := some (.long x)) hT rfl hR hS h1 h2 h3 h4 hW hframe hq⟩
  jvm_step X.here [X.here.top, hx, hb, hdg, hmeth', hr, narrow, px_v]
  (try refine ⟨rfl, ?_⟩); (try refine ⟨rfl, ?_⟩)
  first | (intro acts; rw [hret _ acts rfl rfl rfl]) | rw [hret _ _ rfl rfl rfl]
  exact Steps.refl _
theorem px_vret (hcd : pg_cd mi pc = some (.return_, nx, r1, r2)) (hrt : pg_rt mi = none) (hp : pc + 1 = nx) (hq : Q (.inl none) ph) : PW l g d mi pc lv [] ph Q := by
  subst hp
  intro p e R s m args below meth c H locs cells slots ls B1 B2 hC hR hS hl h1 h2 h3 h4 h5 h6
  intro T hT X
  obtain ⟨hx, hb, hml, hr, hown, hts, hlocks, hnm, hK, hbs, hZ, hd1, hd2, hWs, hB⟩ := hC
  have hdg := pg_dec hcd
  rw [hrt] at hr
  obtain ⟨fs, hret, hrun, hended, hW, hframe⟩ := X.leave (v := none) (fun _ => rfl) hlocks
  have hmeth' : T.vm.method? m = some meth := X.method'
  refine ⟨T.setFrames fs, ?_, .returned none, hrun, hended, px_end (r := none) hT rfl hR hS h1 h2 h3 h4 hW hframe hq⟩
  jvm_step X.here [X.here.top, hx, hb, hdg, hmeth', hr, px_v]
  (try refine ⟨rfl, ?_⟩); (try refine ⟨rfl, ?_⟩)
  first | (intro acts; rw [hret _ acts rfl rfl rfl]) | rw [hret _ _ rfl rfl rfl]
  exact Steps.refl _
theorem px_aret {v : Value} {rt : FieldType} (hcd : pg_cd mi pc = some (.areturn, nx, r1, r2)) (hrt : pg_rt mi = some rt) (hrt2 : (∃ n, rt = .object n) ∨ ∃ t, rt = .array t) (hv : pm_kd v = 2) (hp : pc + 1 = nx) (hq : Q (.inl (some v)) ph) : PW l g d mi pc lv [v] ph Q := by
  subst hp
  intro p e R s m args below meth c H locs cells slots ls B1 B2 hC hR hS hl h1 h2 h3 h4 h5 h6
  intro T hT X
  obtain ⟨hx, hb, hml, hr, hown, hts, hlocks, hnm, hK, hbs, hZ, hd1, hd2, hWs, hB⟩ := hC
  have hdg := pg_dec hcd
  rw [hrt] at hr
  obtain ⟨fs, hret, hrun, hended, hW, hframe⟩ := X.leave (v := some (px_v g v)) (fun h => by rw [hr] at h; cases h) hlocks
  have hmeth' : T.vm.method? m = some meth := X.method'
  refine ⟨T.setFrames fs, ?_, .returned (some (px_v g v)), hrun, hended, px_end (r := some v) hT rfl hR hS h1 h2 h3 h4 hW hframe hq⟩
  have hv' : px_v g v = .null ∨ ∃ a, px_v g v = .ref a := by cases v <;> first | (cases hv; done) | exact Or.inl rfl | exact Or.inr ⟨_, rfl⟩
  show Steps p.tables e below (T.setTop (F0 m pc ls [px_v g v])) _
  generalize px_v g v = w at hv' hret ⊢
  rcases hrt2 with ⟨n, rfl⟩ | ⟨t, rfl⟩ <;> rcases hv' with rfl | ⟨a, rfl⟩ <;>
    (jvm_step X.here [X.here.top, hx, hb, hdg, hmeth', hr]
     (try refine ⟨rfl, ?_⟩); (try refine ⟨rfl, ?_⟩)
     first | (intro acts; rw [hret _ acts rfl rfl rfl]) | rw [hret _ _ rfl rfl rfl]
     exact Steps.refl _)
end PXN
end
section
/-! calls -/
/-- the locals at a method's entry -/
def px_en : List Value → Nat → px_L
  | [], n => List.replicate n px_u
  | v :: r, n => match v with
    | .long x => .long x :: px_u :: px_en r (n - 2)
    | .double x => .double x :: px_u :: px_en r (n - 2)
    | v => v :: px_en r (n - 1)
theorem px_en_mem (g : px_G) : ∀ (vs : List Value) (n i : Nat) (q : Nat × Value), q ∈ px_lz g i (px_en vs n) → q ∈ lv_args i (vs.map (px_v g))
  | [], n, i, q, h => by
    obtain ⟨j, v, h1, h2, -⟩ := (px_lz_mem g _ i q).mp h
    have h3 := List.mem_of_getElem? h1
    rw [px_en, List.mem_replicate] at h3
    rw [h3.2] at h2
    cases h2
  | v :: vs, n, i, q, h => by
    have one : ∀ k, q ∈ (i, px_v g v) :: px_lz g (i + k) (px_en vs (n - k)) → (if (px_v g v).category = 2 then i + 2 else i + 1) = i + k → q ∈ lv_args i ((v :: vs).map (px_v g)) := by
      intro k h1 h2
      show q ∈ (i, px_v g v) :: lv_args _ (vs.map (px_v g))
      rw [h2]
      rcases List.mem_cons.mp h1 with h1 | h1
      · rw [h1]; exact List.mem_cons_self
      · exact List.mem_cons_of_mem _ (px_en_mem g vs (n - k) (i + k) q h1)
    cases v with
    | float x => exact one 1 (List.mem_cons_of_mem _ h) rfl
    | long x => exact one 2 h rfl
    | double x => exact one 2 h rfl
    | int x => exact one 1 h rfl
    | null => exact one 1 h rfl
    | ref x => exact one 1 h rfl
    | retAddr x => exact one 1 h rfl
theorem px_sl (g : px_G) : ∀ vs : List Value, (lg_sl (vs.map (px_v g))).length = (lg_sl vs).length
  | [] => rfl
  | v :: vs => by
    have ih := px_sl g vs
    simp only [lg_sl, List.map_cons, List.flatMap_cons, List.length_append, px_cat] at ih ⊢
    rw [ih]
    by_cases h : v.category = 2 <;> simp [h]
def px_P (g : px_G) (As : List Value) (ph : px_H) : Array Value → State → Prop := fun v U => v = (As.map (px_v g)).toArray ∧ px_R g ph U.heap ∧ px_K g U ∧ px_Z g U U.heap ∧ px_b g ≤ U.heap.size ∧ ph.length ≤ pg_MC ∧ px_sum ph ≤ pg_MS ∧ px_W U ∧ px_B g U
def px_rm (d : Nat) (ph : px_H) : Room := { frames := d, cells := pg_MC - ph.length, slots := pg_MS - px_sum ph, locals := 64 * d }
theorem px_met {l : Launch} {g : px_G} {d mj : Nat} {As : List Value} {ph : px_H} {Q : px_Q} (hm : px_M mj) (hlen : (lg_sl As).length ≤ pg_ml mj) {lv0 : px_L} (hen : px_en As (pg_ml mj) = lv0) (h : PW l g d mj 0 lv0 [] ph Q) :
    MetFree l (pg_mn mj) (headSpec pg_Ts (px_rm d ph)) (px_P g As ph) (fun _ _ _ _ _ => True) (fun _ st o t => px_O g ph.length (px_sum ph) Q st o t) := by
  obtain ⟨hcode, hini, hplain, hml45, hmh, hnp⟩ := hm
  refine MetFree.of_bodyS (code := pg_by mj) (maxLocals := pg_ml mj) (ret := pg_rt mj) hplain ?_ ?_
  · intro args s m hp hn
    obtain ⟨meth, c, h1, h2, h3, h4, h5, h6, -, -⟩ := Cond.code_spec hn (atoms_spec (ws := pg_Ts) hp _ hcode)
    exact ⟨meth, c, h1, h2, h3, h4, h5, h6⟩
  · intro p e s m args below meth c s₁ B hml hP _
    obtain ⟨hargs, hR, hK, hZ, hbs, h3, h4, hWs, hB⟩ := hP
    have hh0 : s₁.heap = s.heap := by rw [B.state]; rfl
    have hC : px_C g d mj p (px_rm d ph) s m args meth c := ⟨B.exec, B.bytes, hml, B.returns, findClass_of_methodNamed B.named, atoms_spec (ws := pg_Ts) B.pre, B.notSynchronized, (name_of_methodNamed B.named B.method).1, hK, hbs, hZ, Nat.le_refl _, Nat.le_refl _, hWs, hB⟩
    subst hen
    have hl0 := lv_entry (As.map (px_v g)) (n := pg_ml mj) (by rw [px_sl]; exact hlen)
    have hl : lv_has _ (pg_ml mj) (px_l g (px_en As (pg_ml mj))) := ⟨hl0.1, hl0.2.1, fun q hq => hl0.2.2 q (px_en_mem g As (pg_ml mj) 0 q hq)⟩
    have w := h p e (px_rm d ph) s m args below meth c s.heap [] 0 0 _ ph.length (px_sum ph) hC hR va_S.rf hl (Nat.zero_add _) (Nat.zero_add _) h3 h4 (by show pg_MC ≤ (pg_MC - ph.length) + ph.length; omega) (by show pg_MS ≤ (pg_MS - px_sum ph) + px_sum ph; omega)
    obtain ⟨t, a1, o, b1, b2, b3⟩ := w s₁ hh0 (Stand.of_body B)
    refine ⟨t, o, ?_, b1, b2, b3⟩
    rw [hargs, lg_entry_eq]
    exact a1
/-- before and behind a call -/
def px_Pre (g : px_G) (R : Room) (As : List Value) (ph : px_H) : Pt → Array Value → Prop := fun A a => px_P g As ph a A.U ∧ A.cells + (pg_MC - ph.length) ≤ R.cells ∧ A.slots + (pg_MS - px_sum ph) ≤ R.slots
def px_Post (g : px_G) (ph : px_H) (Q : px_Q) : Pt → Array Value → Option Value → Pt → Prop := fun A _ v B =>
  ∃ (r : Option Value) (ph' : px_H) (L : List Loc) (k n : Nat), v = r.map (px_v g) ∧ Q (.inl r) ph' ∧ px_R g ph' B.U.heap ∧ B.locs = A.locs ++ L ∧ (∀ q ∈ L, px_A g q.base) ∧ B.cells = A.cells + k ∧ B.slots = A.slots + n ∧ k + ph.length = ph'.length ∧ n + px_sum ph = px_sum ph' ∧ ph'.length ≤ pg_MC ∧ px_sum ph' ≤ pg_MS ∧
    A.U.heap.size ≤ B.U.heap.size ∧ ∀ q : Nat, q < A.U.heap.size → ¬ px_A g q → B.U.heap[q]? = A.U.heap[q]?
theorem px_back {l : Launch} {g : px_G} {d mi mj : Nat} {As : List Value} {ph : px_H} {Q : px_Q} {p : Program} {e : Env} {R : Room} {s : State} {m : MethodId} {sargs : Array Value} {below : List Frame} {meth : Method} {c : Code} (hC : px_C g (d + 1) mi p R s m sargs meth c) (hm : px_M mj) (hlen : (lg_sl As).length ≤ pg_ml mj) {lv0 : px_L} (hen : px_en As (pg_ml mj) = lv0) (h : PW l g d mj 0 lv0 [] ph Q) (hno : ∀ x ph', ¬ Q (.inr x) ph') :
    Back l R p e below s sargs (pg_mn mj) 3 8 (px_Pre g R As ph) (px_Post g ph Q) := by
  obtain ⟨hx, hb, hml, hrt, hown, hts, hlk, hnm, hK, hbs, hZ, hd1, hd2, hWs, hB⟩ := hC
  have hM := px_met hm hlen hen h
  obtain ⟨hcode, hini, hplain, hml45, hmh, hnp⟩ := hm
  refine Back.of_free (S := headSpec pg_Ts (px_rm d ph)) (P := px_P g As ph) (K := fun _ _ _ _ _ => True) (Q := fun _ st o t => px_O g ph.length (px_sum ph) Q st o t) (bytes := pg_by mj) (maxL := pg_ml mj) (ret := pg_rt mj)
    (E := fun _ st o t L k n => ∃ (r : Option Value) (ph' : px_H), o = .returned (r.map (px_v g)) ∧ Q (.inl r) ph' ∧ px_R g ph' t.heap ∧ (∀ q ∈ L, px_A g q.base) ∧ k + ph.length = ph'.length ∧ n + px_sum ph = px_sum ph' ∧ ph'.length ≤ pg_MC ∧ px_sum ph' ≤ pg_MS ∧ va_F (px_A g) st t)
    hM hd1 (by show 8 + (pg_ml mj + 11) + 64 * d ≤ R.locals; omega) ?_ ?_ (fun _ _ _ _ _ _ _ _ _ => trivial) ?_ ?_
  · intro m2 meth2 c2 A a X hp
    exact ⟨atoms_intro fun w hw => word_at X.warmed (pg_good w hw) (hts w hw), word_at X.warmed (pg_good _ hcode) (hts _ hcode), word_at X.warmed (pg_good _ hini) (hts _ hini), hp.2.1, hp.2.2⟩
  · intro m2 meth2 c2 A a gf mk X hp
    obtain ⟨⟨q1, q2, q3, q4, q5, q6, q7, q8, q9⟩, -, -⟩ := hp
    exact ⟨q1, q2, va_K.moved (u := A.U) (U := A.U.calling gf mk a) (Vm.Alike.refl A.U.vm) q3, px_Z.moved (u := A.U) (U := A.U.calling gf mk a) (Vm.Alike.refl A.U.vm) q4, q5, q6, q7, px_W.warm (s := A.U) (U := A.U.calling gf mk a) (State.WarmedH.refl A.U) q8, q9⟩
  · intro a first o t ho
    obtain ⟨ph', L, k, n, hW, hsame, hL, hk, hn, c3, c4, hR', hF, ⟨r, ho', hq⟩ | ⟨x, ho', hq⟩⟩ := ho
    · exact ⟨L, k, n, ⟨⟨_, ho'⟩, hW, hsame⟩, r, ph', ho', hq, hR', hL, hk, hn, c3, c4, hF⟩
    · exact absurd hq (hno x ph')
  · intro m2 meth2 c2 A a gf mk v t L k n X hp hq hF hE
    obtain ⟨r, ph', ho, hq', hR', hL, hk, hn, c3, c4, hF2⟩ := hE
    cases ho
    exact ⟨r, ph', L, k, n, rfl, hq', hR', rfl, hL, rfl, rfl, hk, hn, c3, c4, hF2.1, hF2.2⟩
section PXC
variable {l : Launch} {g : px_G} {d mi pc : Nat} {lv : px_L} {st : List Value} {ph : px_H} {Q Q1 : px_Q} {len nx r1 r2 : Nat}
/-- behind a call: the caller goes on -/
theorem px_after {p : Program} {e : Env} {R : Room} {s : State} {m : MethodId} {args : Array Value} {below : List Frame} {meth : Method} {c : Code} {T : State} {H : Heap} {locs : List Loc} {cells slots : Nat} {ls : Array Slot} {B1 B2 : Nat} {vm₁ : Vm} {B : Pt} {a : Array Value} {v : Option Value}
    (hC : px_C g d mi p R s m args meth c) (hT : T.heap = H) (hS : va_S (px_A g) s.heap H locs) (hl : lv_has ls (pg_ml mi) (px_l g lv)) (h1 : cells + B1 = ph.length) (h2 : slots + B2 = px_sum ph) (h5 : pg_MC ≤ R.cells + B1) (h6 : pg_MS ≤ R.slots + B2)
    (X' : Stand p l e R s m args below meth c B.U B.locs B.cells B.slots) (hpost : px_Post g ph Q1 ⟨T.setVm vm₁, locs, cells, slots⟩ a v B)
    (kk : ∀ r ph', Q1 (.inl r) ph' → PW l g d mi (pc + 3) lv (r.toList ++ st) ph' Q) {g0 : JFrame}
    (stp : ∀ target, Steps p.tables e below (B.U.setTop (F0 m (pc + 3) ls (v.toList ++ st.map (px_v g)))) target → Steps p.tables e below (T.setTop g0) target) :
    ∃ t, Steps p.tables e below (T.setTop g0) t ∧ px_E g below s B1 B2 Q t := by
  obtain ⟨U', l', c', n'⟩ := B
  obtain ⟨r, ph', L, k, n, hv, hq, hR', hL1, hL2, hc1, hc2, hk, hn, c3, c4, hz, ho⟩ := hpost
  dsimp only [Pt.U, Pt.locs, Pt.cells, Pt.slots] at hL1 hc1 hc2 hz ho hR' X' stp
  have hS' : va_S (px_A g) s.heap U'.heap l' := by
    refine ⟨Nat.le_trans hS.1 (by rw [← hT]; exact hz), fun q g1 g2 => ?_, fun q hq => ?_⟩
    · rw [ho q (by show q < T.heap.size; rw [hT]; exact Nat.lt_of_lt_of_le g1 hS.1) g2]
      show T.heap[q]? = _
      rw [hT]
      exact hS.2.1 q g1 g2
    · rw [hL1] at hq
      rcases List.mem_append.mp hq with hq | hq
      · exact hS.2.2 q hq
      · exact hL2 q hq
  have w := kk r ph' hq p e R s m args below meth c U'.heap l' c' n' ls B1 B2 hC hR' hS' hl (by rw [hc1]; omega) (by rw [hc2]; omega) c3 c4 h5 h6
  obtain ⟨t2, a1, b1⟩ := w U' rfl X'
  refine ⟨t2, stp t2 ?_, b1⟩
  have e1 : v.toList ++ st.map (px_v g) = (r.toList ++ st).map (px_v g) := by rw [hv]; cases r <;> rfl
  rw [e1]
  exact a1
theorem px_pre {p : Program} {R : Room} {s : State} {m : MethodId} {args : Array Value} {meth : Method} {c : Code} {T : State} {H : Heap} {locs : List Loc} {cells slots : Nat} {B1 B2 : Nat} {As : List Value}
    (hC : px_C g d mi p R s m args meth c) (hT : T.heap = H) (hR : px_R g ph H) (hS : va_S (px_A g) s.heap H locs) (h1 : cells + B1 = ph.length) (h2 : slots + B2 = px_sum ph) (h3 : ph.length ≤ pg_MC) (h4 : px_sum ph ≤ pg_MS) (h5 : pg_MC ≤ R.cells + B1) (h6 : pg_MS ≤ R.slots + B2) :
    ∀ vm₁, s.WarmedH vm₁ → px_Pre g R As ph ⟨T.setVm vm₁, locs, cells, slots⟩ (As.map (px_v g)).toArray := by
  intro vm₁ hW
  obtain ⟨hx, hb, hml, hrt, hown, hts, hlk, hnm, hK, hbs, hZ, hd1, hd2, hWs, hB⟩ := hC
  refine ⟨⟨rfl, ?_, va_K.moved (u := s) (U := T.setVm vm₁) hW.alike hK, ?_, ?_, h3, h4, px_W.warm (s := s) (U := T.setVm vm₁) hW hWs, State.WarmedH.trans hB.1 hW, fun q hq => ?_⟩, ?_, ?_⟩
  · show px_R g ph T.heap
    rw [hT]; exact hR
  · refine (px_Z.moved (u := s) (U := T.setVm vm₁) hW.alike hZ).kept (fun a g1 g2 => ?_)
    show T.heap[a]? = _
    rw [hT]
    exact hS.2.1 a g1 g2
  · show px_b g ≤ T.heap.size
    rw [hT, hR.1]; omega
  · show T.heap[q]? = _
    rw [hT, hS.2.1 q (Nat.lt_of_lt_of_le hq hbs) (Nat.not_le.mpr hq)]
    exact hB.2 q hq
  · show cells + (pg_MC - ph.length) ≤ R.cells
    omega
  · show slots + (pg_MS - px_sum ph) ≤ R.slots
    omega
theorem px_rest (h : (st.map fun v => v.category).sum ≤ 8) (m : MethodId) (pc : Nat) (ls : Array Slot) (stk : List Value) : 2 * (F0 m pc ls stk).monitorRoom + ((st.map (px_v g)).map fun v => v.category).sum ≤ 8 := by
  have e : (st.map (px_v g)).map (fun v => v.category) = st.map (fun v => v.category) := by
    rw [List.map_map]; congr 1; funext v; exact px_cat g v
  rw [e]
  exact lv_room h
set_option maxHeartbeats 1000000 in
theorem px_callS {idx mj : Nat} {As : List Value} (hcd : pg_cd mi pc = some (.invokestatic idx, nx, mj, r2)) (hj : Nat.blt mj 382 = true) (hn : As.length = pg_np mj) (hlen : Nat.ble (lg_sl As).length (pg_ml mj) = true) (hrs : Nat.ble (st.map fun v => v.category).sum 8 = true)
    {lv0 : px_L} (hen : px_en As (pg_ml mj) = lv0) (h : PW l g d mj 0 lv0 [] ph Q1) (hno : ∀ x ph', ¬ Q1 (.inr x) ph') (hp : pc + 3 = nx) (kk : ∀ r ph', Q1 (.inl r) ph' → PW l g (d + 1) mi nx lv (r.toList ++ st) ph' Q) : PW l g (d + 1) mi pc lv (As.reverse ++ st) ph Q := by
  subst hp
  intro p e R s m args below meth c H locs cells slots ls B1 B2 hC hR hS hl h1 h2 h3 h4 h5 h6
  intro T hT X
  obtain ⟨hm, hstat, hlink⟩ := pg_ivs_ok hcd hj
  have hK := px_back (e := e) (below := below) hC hm (Nat.le_of_ble_eq_true hlen) hen h hno
  have hC' := hC
  obtain ⟨hx, hb, hml, hrt, hown, hts, hlk, hnm, hK0, hbs, hZ, hd1, hd2, hWs, hB⟩ := hC
  obtain ⟨hcode, hini, hplain, hml45, hmh, hnp⟩ := hm
  have hpre := px_pre (As := As) hC' hT hR hS h1 h2 h3 h4 h5 h6
  have hsz : (F0 m pc ls ((As.reverse ++ st).map (px_v g))).locals.size = c.maxLocals := by rw [hml]; exact hl.1
  have hstk : (F0 m pc ls ((As.reverse ++ st).map (px_v g))).stack = (As.map (px_v g)).reverse ++ st.map (px_v g) := by show (As.reverse ++ st).map (px_v g) = _; rw [List.map_append, List.map_reverse]
  have hln : ∀ sig, parseMethodDescriptor (pg_mn mj).desc = some sig → (As.map (px_v g)).length = sig.parameters.length := by
    intro sig hs
    rw [hs] at hnp
    rw [List.length_map, hn]
    exact (Option.some.inj hnp).symm
  rcases hlink with hlink | ⟨host, hlink⟩
  · obtain ⟨v, vm₁, B, hW₁, X', hpost, stp⟩ := callS X hx (bytes := pg_by mj) (maxL := pg_ml mj) (ret := pg_rt mj) hown (hts _ hlink) (hts _ hstat) (hts _ hini) (hts _ hcode) hmh hK (g := F0 m pc ls ((As.reverse ++ st).map (px_v g))) rfl hsz (argsL := As.map (px_v g)) (rest := st.map (px_v g)) hln hstk (px_rest (Nat.le_of_ble_eq_true hrs) m pc ls _) (by rw [hb]; exact pg_dec hcd) hpre
    exact px_after hC' hT hS hl h1 h2 h5 h6 X' hpost kk stp
  · obtain ⟨v, vm₁, B, hW₁, X', hpost, stp⟩ := va_callSN X hx (bytes := pg_by mj) (maxL := pg_ml mj) (ret := pg_rt mj) hown (va_Nw.use (by rfl) (hWs.1 _ hlink)) (hts _ hstat) (hts _ hini) (hts _ hcode) hmh hK (g := F0 m pc ls ((As.reverse ++ st).map (px_v g))) rfl hsz (argsL := As.map (px_v g)) (rest := st.map (px_v g)) hln hstk (px_rest (Nat.le_of_ble_eq_true hrs) m pc ls _) (by rw [hb]; exact pg_dec hcd) hpre
    exact px_after hC' hT hS hl h1 h2 h5 h6 X' hpost kk stp
set_option maxHeartbeats 1000000 in
theorem px_callV {idx mj a ci : Nat} {As fs : List Value} {C : String} {Tb : u_T} {N : Nat} (hcd : pg_cd mi pc = some (.invokevirtual idx, nx, mj, r2)) (hj : Nat.blt mj 382 = true) (he : ph[a]? = some (.inr (ci, fs))) (hc : pg_cl[ci]? = some (C, Tb, N)) (hCm : (pg_mn mj).cls = C) (hn : As.length = pg_np mj) (hlen : Nat.ble (lg_sl (.ref a :: As)).length (pg_ml mj) = true) (hrs : Nat.ble (st.map fun v => v.category).sum 8 = true)
    {lv0 : px_L} (hen : px_en (.ref a :: As) (pg_ml mj) = lv0) (h : PW l g d mj 0 lv0 [] ph Q1) (hno : ∀ x ph', ¬ Q1 (.inr x) ph') (hp : pc + 3 = nx) (kk : ∀ r ph', Q1 (.inl r) ph' → PW l g (d + 1) mi nx lv (r.toList ++ st) ph' Q) : PW l g (d + 1) mi pc lv (As.reverse ++ .ref a :: st) ph Q := by
  subst hp
  intro p e R s m args below meth c H locs cells slots ls B1 B2 hC hR hS hl h1 h2 h3 h4 h5 h6
  intro T hT X
  obtain ⟨hm, hinst, hsel, hlink⟩ := pg_ivv_ok hcd hj
  have hK := px_back (e := e) (below := below) hC hm (Nat.le_of_ble_eq_true hlen) hen h hno
  have hC' := hC
  obtain ⟨hx, hb, hml, hrt, hown, hts, hlk, hnm, hK0, hbs, hZ, hd1, hd2, hWs, hB⟩ := hC
  obtain ⟨hcode, hini, hplain, hml45, hmh, hnp⟩ := hm
  have hpre := px_pre (As := .ref a :: As) hC' hT hR hS h1 h2 h3 h4 h5 h6
  have hsz : (F0 m pc ls ((As.reverse ++ .ref a :: st).map (px_v g))).locals.size = c.maxLocals := by rw [hml]; exact hl.1
  have hstk : (F0 m pc ls ((As.reverse ++ .ref a :: st).map (px_v g))).stack = (As.map (px_v g)).reverse ++ .ref (px_b g + a) :: st.map (px_v g) := by show (As.reverse ++ .ref a :: st).map (px_v g) = _; rw [List.map_append, List.map_reverse]; rfl
  have hln : ∀ sig, parseMethodDescriptor (pg_mn mj).desc = some sig → (As.map (px_v g)).length = sig.parameters.length := by
    intro sig hs
    rw [hs] at hnp
    rw [List.length_map, hn]
    exact (Option.some.inj hnp).symm
  obtain ⟨r0, hr0, cellB, q1, q2, q3, -⟩ := hR.2 a _ he
  have hfc : s.vm.findClass C = some cellB.cls := by rw [q2]; exact (hK0.1 ci _ hc).2.1
  have hcell : T.heap[px_b g + a]? = some cellB := by rw [hT]; exact q1
  have hst2 : cellB.vm.isStatics = false := by rw [q3]; rfl
  subst hCm
  rcases hlink with hlink | ⟨host, hlink⟩
  · obtain ⟨v, vm₁, B, hW₁, X', hpost, stp⟩ := callV X hx (C := (pg_mn mj).cls) (bytes := pg_by mj) (maxL := pg_ml mj) (ret := pg_rt mj) hown (hts _ hlink) (hts _ hinst) (hsel args s hts) (hts _ hcode) hmh hK hcell hst2 hfc (g := F0 m pc ls ((As.reverse ++ .ref a :: st).map (px_v g))) rfl hsz (argsL := As.map (px_v g)) (rest := st.map (px_v g)) hln hstk (px_rest (Nat.le_of_ble_eq_true hrs) m pc ls _) (by rw [hb]; exact pg_dec hcd) hpre
    exact px_after hC' hT hS hl h1 h2 h5 h6 X' hpost kk stp
  · obtain ⟨v, vm₁, B, hW₁, X', hpost, stp⟩ := va_callVN X hx (C := (pg_mn mj).cls) (bytes := pg_by mj) (maxL := pg_ml mj) (ret := pg_rt mj) hown (va_Nw.use (by rfl) (hWs.1 _ hlink)) (hts _ hinst) (hsel args s hts) (hts _ hcode) hmh hK hcell hst2 hfc (g := F0 m pc ls ((As.reverse ++ .ref a :: st).map (px_v g))) rfl hsz (argsL := As.map (px_v g)) (rest := st.map (px_v g)) hln hstk (px_rest (Nat.le_of_ble_eq_true hrs) m pc ls _) (by rw [hb]; exact pg_dec hcd) hpre
    exact px_after hC' hT hS hl h1 h2 h5 h6 X' hpost kk stp
set_option maxHeartbeats 1000000 in
theorem px_callI {idx mj a : Nat} {As : List Value} (hcd : pg_cd mi pc = some (.invokespecial idx, nx, mj, r2)) (hj : Nat.blt mj 382 = true) (hn : As.length = pg_np mj) (hlen : Nat.ble (lg_sl (.ref a :: As)).length (pg_ml mj) = true) (hrs : Nat.ble (st.map fun v => v.category).sum 8 = true)
    {lv0 : px_L} (hen : px_en (.ref a :: As) (pg_ml mj) = lv0) (h : PW l g d mj 0 lv0 [] ph Q1) (hno : ∀ x ph', ¬ Q1 (.inr x) ph') (hp : pc + 3 = nx) (kk : ∀ r ph', Q1 (.inl r) ph' → PW l g (d + 1) mi nx lv (r.toList ++ st) ph' Q) : PW l g (d + 1) mi pc lv (As.reverse ++ .ref a :: st) ph Q := by
  subst hp
  intro p e R s m args below meth c H locs cells slots ls B1 B2 hC hR hS hl h1 h2 h3 h4 h5 h6
  intro T hT X
  obtain ⟨hm, hrtn, hname, hinst, hlink⟩ := pg_ivi_ok hcd hj
  have hK := px_back (e := e) (below := below) hC hm (Nat.le_of_ble_eq_true hlen) hen h hno
  have hC' := hC
  obtain ⟨hx, hb, hml, hrt, hown, hts, hlk, hnm, hK0, hbs, hZ, hd1, hd2, hWs, hB⟩ := hC
  obtain ⟨hcode, hini, hplain, hml45, hmh, hnp⟩ := hm
  rw [hrtn] at hcode
  have hpre := px_pre (As := .ref a :: As) hC' hT hR hS h1 h2 h3 h4 h5 h6
  have hsz : (F0 m pc ls ((As.reverse ++ .ref a :: st).map (px_v g))).locals.size = c.maxLocals := by rw [hml]; exact hl.1
  have hstk : (F0 m pc ls ((As.reverse ++ .ref a :: st).map (px_v g))).stack = (As.map (px_v g)).reverse ++ .ref (px_b g + a) :: st.map (px_v g) := by show (As.reverse ++ .ref a :: st).map (px_v g) = _; rw [List.map_append, List.map_reverse]; rfl
  have hln : ∀ sig, parseMethodDescriptor (pg_mn mj).desc = some sig → (As.map (px_v g)).length = sig.parameters.length := by
    intro sig hs
    rw [hs] at hnp
    rw [List.length_map, hn]
    exact (Option.some.inj hnp).symm
  rcases hlink with hlink | ⟨host, hlink⟩
  · obtain ⟨v, vm₁, B, hW₁, X', hpost, stp⟩ := callI X hx (bytes := pg_by mj) (maxL := pg_ml mj) hown hname (hts _ hlink) (hts _ hinst) (hts _ hcode) hmh hK (g := F0 m pc ls ((As.reverse ++ .ref a :: st).map (px_v g))) rfl hsz (a := px_b g + a) (argsL := As.map (px_v g)) (rest := st.map (px_v g)) hln hstk (px_rest (Nat.le_of_ble_eq_true hrs) m pc ls _) (by rw [hb]; exact pg_dec hcd) hpre
    exact px_after hC' hT hS hl h1 h2 h5 h6 X' hpost kk stp
  · obtain ⟨v, vm₁, B, hW₁, X', hpost, stp⟩ := va_callIN X hx (bytes := pg_by mj) (maxL := pg_ml mj) hown hname (va_Nw.use (by rfl) (hWs.1 _ hlink)) (hts _ hinst) (hts _ hcode) hmh hK (g := F0 m pc ls ((As.reverse ++ .ref a :: st).map (px_v g))) rfl hsz (a := px_b g + a) (argsL := As.map (px_v g)) (rest := st.map (px_v g)) hln hstk (px_rest (Nat.le_of_ble_eq_true hrs) m pc ls _) (by rw [hb]; exact pg_dec hcd) hpre
    exact px_after hC' hT hS hl h1 h2 h5 h6 X' hpost kk stp
/-- Object's own constructor -/
theorem px_obj {idx a : Nat} (hcd : pg_cd mi pc = some (.invokespecial idx, nx, 9006, r2)) (hlink : Cond.methodLink (pg_mn mi).cls idx objectInit ∈ pg_Ts) (hinst : Cond.instanceMethod objectInit ∈ pg_Ts) (hcode : Cond.code objectInit ⟨#[0xb1]⟩ 1 none ∈ pg_Ts) (hrs : Nat.ble (st.map fun v => v.category).sum 8 = true) (hp : pc + 3 = nx) (kk : PW l g (d + 1) mi nx lv st ph Q) : PW l g (d + 1) mi pc lv (.ref a :: st) ph Q := by
  subst hp
  intro p e R s m args below meth c H locs cells slots ls B1 B2 hC hR hS hl h1 h2 h3 h4 h5 h6
  have k1 := kk p e R s m args below meth c H locs cells slots ls B1 B2 hC hR hS hl h1 h2 h3 h4 h5 h6
  obtain ⟨hx, hb, hml, hrt, hown, hts, hlk, hnm, hK0, hbs, hZ, hd1, hd2, hWs, hB⟩ := hC
  have h8 := px_rest (g := g) (Nat.le_of_ble_eq_true hrs) m pc ls ((.ref a :: st).map (px_v g))
  exact W.objInit hx hb hown (hts _ hlink) (hts _ hinst) (hts _ hcode) rfl (by rw [hml]; exact hl.1) rfl (pg_dec hcd) (by omega) (by omega) k1
end PXC
end
