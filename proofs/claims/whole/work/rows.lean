section
/-! the tables of the pure machine: classes, fields, methods, links, printed by a program (wip/tools/gen01.py) out of claim/Statement.lean -/
def pg_Ts : List Cond := tables_1.filter goodWord
theorem pg_good (w : Cond) (h : w ∈ pg_Ts) : (w.onTables && w.keeps) = true ∨ ∃ ty, w = .arrayClass ty := good_of_word (List.mem_filter.mp h).2
def pg_tbl : List (List Cond) := [tables_1_1, tables_1_2, tables_1_3, tables_1_4, tables_1_5, tables_1_6, tables_1_7, tables_1_8, tables_1_9, tables_1_10, tables_1_11, tables_1_12, tables_1_13, tables_1_14]
def pg_tb (i : Nat) : Option Cond := (pg_tbl.getD (i / 240) [])[i % 240]?
theorem pg_tbm : ∀ L ∈ pg_tbl, ∀ w ∈ L, w ∈ tables_1 := by
  simp only [pg_tbl, List.forall_mem_cons]
  unfold tables_1
  exact ⟨fun w h => List.mem_append_left _ h, fun w h => List.mem_append_right _ (List.mem_append_left _ h), fun w h => List.mem_append_right _ (List.mem_append_right _ (List.mem_append_left _ h)), fun w h => List.mem_append_right _ (List.mem_append_right _ (List.mem_append_right _ (List.mem_append_left _ h))), fun w h => List.mem_append_right _ (List.mem_append_right _ (List.mem_append_right _ (List.mem_append_right _ (List.mem_append_left _ h)))), fun w h => List.mem_append_right _ (List.mem_append_right _ (List.mem_append_right _ (List.mem_append_right _ (List.mem_append_right _ (List.mem_append_left _ h))))), fun w h => List.mem_append_right _ (List.mem_append_right _ (List.mem_append_right _ (List.mem_append_right _ (List.mem_append_right _ (List.mem_append_right _ (List.mem_append_left _ h)))))), fun w h => List.mem_append_right _ (List.mem_append_right _ (List.mem_append_right _ (List.mem_append_right _ (List.mem_append_right _ (List.mem_append_right _ (List.mem_append_right _ (List.mem_append_left _ h))))))), fun w h => List.mem_append_right _ (List.mem_append_right _ (List.mem_append_right _ (List.mem_append_right _ (List.mem_append_right _ (List.mem_append_right _ (List.mem_append_right _ (List.mem_append_right _ (List.mem_append_left _ h)))))))), fun w h => List.mem_append_right _ (List.mem_append_right _ (List.mem_append_right _ (List.mem_append_right _ (List.mem_append_right _ (List.mem_append_right _ (List.mem_append_right _ (List.mem_append_right _ (List.mem_append_right _ (List.mem_append_left _ h))))))))), fun w h => List.mem_append_right _ (List.mem_append_right _ (List.mem_append_right _ (List.mem_append_right _ (List.mem_append_right _ (List.mem_append_right _ (List.mem_append_right _ (List.mem_append_right _ (List.mem_append_right _ (List.mem_append_right _ (List.mem_append_left _ h)))))))))), fun w h => List.mem_append_right _ (List.mem_append_right _ (List.mem_append_right _ (List.mem_append_right _ (List.mem_append_right _ (List.mem_append_right _ (List.mem_append_right _ (List.mem_append_right _ (List.mem_append_right _ (List.mem_append_right _ (List.mem_append_right _ (List.mem_append_left _ h))))))))))), fun w h => List.mem_append_right _ (List.mem_append_right _ (List.mem_append_right _ (List.mem_append_right _ (List.mem_append_right _ (List.mem_append_right _ (List.mem_append_right _ (List.mem_append_right _ (List.mem_append_right _ (List.mem_append_right _ (List.mem_append_right _ (List.mem_append_right _ (List.mem_append_left _ h)))))))))))), fun w h => List.mem_append_right _ (List.mem_append_right _ (List.mem_append_right _ (List.mem_append_right _ (List.mem_append_right _ (List.mem_append_right _ (List.mem_append_right _ (List.mem_append_right _ (List.mem_append_right _ (List.mem_append_right _ (List.mem_append_right _ (List.mem_append_right _ (List.mem_append_right _ h)))))))))))), fun _ h => absurd h List.not_mem_nil⟩
theorem pg_tb_in {i : Nat} {w : Cond} (h : pg_tb i = some w) : w ∈ tables_1 := by
  unfold pg_tb at h
  have h1 := List.mem_of_getElem? h
  rw [List.getD_eq_getElem?_getD] at h1
  cases h3 : pg_tbl[i / 240]? with
  | some L => rw [h3] at h1; exact pg_tbm L (List.mem_of_getElem? h3) w h1
  | none => rw [h3] at h1; exact absurd h1 List.not_mem_nil
theorem pg_at {i : Nat} {w : Cond} (h : pg_tb i = some w) (hg : goodWord w = true) : w ∈ pg_Ts := List.mem_filter.mpr ⟨pg_tb_in h, hg⟩
def pg_MC : Nat := 601024
def pg_MS : Nat := 7293034
def pg_on : List String := ["LinkHouse", "LinkHouse$Filler", "LinkHouse$Layout", "LinkHouse$Link", "LinkHouse$Memory", "LinkHouse$Name", "LinkHouse$Names", "LinkHouse$ObjectFile", "LinkHouse$Part", "LinkHouse$Pool", "LinkHouse$Row", "LinkHouse$Scribe", "LinkHouseModel", "java/lang/IllegalArgumentException", "java/lang/IllegalStateException", "java/util/NoSuchElementException", "LinkHouseLaw", "java/util/Arrays", "java/lang/String", "java/lang/StringLatin1", "jdk/internal/util/Preconditions"]
def pg_cn (ci : Nat) : String := pg_on.getD ci ""
def pg_ty : List FieldType := [.byte, .int, .long, .boolean, .object "LinkHouse$ObjectFile", .object "LinkHouse$Name", .object "LinkHouse$Part"]
def pg_FL : List (List (String × String × String × Bool)) := [
  [("LinkHouse", "tape", "LLinkHouse$Row;", true), ("LinkHouse", "out", "LLinkHouse$Row;", false), ("LinkHouse", "draft", "LLinkHouse$Row;", false), ("LinkHouse", "store", "LLinkHouse$Row;", true), ("LinkHouse", "members", "[LLinkHouse$ObjectFile;", true), ("LinkHouse", "ends", "[I", true), ("LinkHouse", "files", "I", false), ("LinkHouse", "marks", "[I", true), ("LinkHouse", "given", "LLinkHouse$Names;", true), ("LinkHouse", "wished", "LLinkHouse$Names;", true), ("LinkHouse", "probe", "LLinkHouse$Name;", true), ("LinkHouse", "link", "LLinkHouse$Link;", true), ("LinkHouse", "pool", "LLinkHouse$Pool;", true), ("LinkHouse", "layout", "LLinkHouse$Layout;", true), ("LinkHouse", "filler", "LLinkHouse$Filler;", true), ("LinkHouse", "scribe", "LLinkHouse$Scribe;", true), ("LinkHouse", "memory", "LLinkHouse$Memory;", true), ("LinkHouse", "bootError", "I", false)],
  [("LinkHouse$Filler", "link", "LLinkHouse$Link;", true), ("LinkHouse$Filler", "layout", "LLinkHouse$Layout;", true), ("LinkHouse$Filler", "pool", "LLinkHouse$Pool;", true), ("LinkHouse$Filler", "store", "LLinkHouse$Row;", true), ("LinkHouse$Filler", "file", "LLinkHouse$Row;", true)],
  [("LinkHouse$Layout", "link", "LLinkHouse$Link;", true), ("LinkHouse$Layout", "pool", "LLinkHouse$Pool;", true), ("LinkHouse$Layout", "order", "[LLinkHouse$Part;", true), ("LinkHouse$Layout", "noPart", "LLinkHouse$Part;", true), ("LinkHouse$Layout", "there", "[Z", true), ("LinkHouse$Layout", "filePlace", "[J", true), ("LinkHouse$Layout", "base", "[J", true), ("LinkHouse$Layout", "fileBytes", "[J", true), ("LinkHouse$Layout", "memoryBytes", "[J", true), ("LinkHouse$Layout", "slots", "[I", true), ("LinkHouse$Layout", "localSlots", "[I", true), ("LinkHouse$Layout", "count", "I", false), ("LinkHouse$Layout", "slotCount", "I", false), ("LinkHouse$Layout", "slotPlace", "J", false), ("LinkHouse$Layout", "textEnd", "J", false), ("LinkHouse$Layout", "bssStart", "J", false), ("LinkHouse$Layout", "threadAlign", "J", false), ("LinkHouse$Layout", "tp", "J", false), ("LinkHouse$Layout", "fileSize", "J", false)],
  [("LinkHouse$Link", "members", "[LLinkHouse$ObjectFile;", true), ("LinkHouse$Link", "given", "LLinkHouse$Names;", true), ("LinkHouse$Link", "wished", "LLinkHouse$Names;", true), ("LinkHouse$Link", "names", "LLinkHouse$Names;", true), ("LinkHouse$Link", "parts", "[LLinkHouse$Part;", true), ("LinkHouse$Link", "noPart", "LLinkHouse$Part;", true), ("LinkHouse$Link", "objects", "[LLinkHouse$ObjectFile;", true), ("LinkHouse$Link", "noObject", "LLinkHouse$ObjectFile;", true), ("LinkHouse$Link", "symbolNames", "[LLinkHouse$Name;", true), ("LinkHouse$Link", "order", "[LLinkHouse$Name;", true), ("LinkHouse$Link", "queue", "[LLinkHouse$Part;", true), ("LinkHouse$Link", "probe", "LLinkHouse$Name;", true), ("LinkHouse$Link", "start", "LLinkHouse$Name;", true), ("LinkHouse$Link", "blamed", "LLinkHouse$Name;", false), ("LinkHouse$Link", "taken", "I", false), ("LinkHouse$Link", "ordered", "I", false), ("LinkHouse$Link", "queued", "I", false), ("LinkHouse$Link", "dropped", "I", false), ("LinkHouse$Link", "answer", "I", false), ("LinkHouse$Link", "overrun", "J", false)],
  [("LinkHouse$Memory", "bytes", "LLinkHouse$Row;", true), ("LinkHouse$Memory", "starts", "[J", true), ("LinkHouse$Memory", "sizes", "[J", true), ("LinkHouse$Memory", "fileSizes", "[J", true), ("LinkHouse$Memory", "places", "[I", true), ("LinkHouse$Memory", "flagBits", "[J", true), ("LinkHouse$Memory", "rows", "I", false), ("LinkHouse$Memory", "entry", "J", false), ("LinkHouse$Memory", "symbolPlace", "I", false), ("LinkHouse$Memory", "symbols", "I", false), ("LinkHouse$Memory", "namePlace", "I", false), ("LinkHouse$Memory", "nameSize", "I", false), ("LinkHouse$Memory", "named", "I", false)],
  [("LinkHouse$Name", "low", "J", false), ("LinkHouse$Name", "mid", "J", false), ("LinkHouse$Name", "high", "J", false), ("LinkHouse$Name", "length", "I", false), ("LinkHouse$Name", "strength", "I", false), ("LinkHouse$Name", "home", "I", false), ("LinkHouse$Name", "part", "LLinkHouse$Part;", false), ("LinkHouse$Name", "value", "J", false), ("LinkHouse$Name", "size", "J", false), ("LinkHouse$Name", "info", "I", false), ("LinkHouse$Name", "missed", "Z", false), ("LinkHouse$Name", "wished", "Z", false), ("LinkHouse$Name", "signature", "Z", false), ("LinkHouse$Name", "stays", "Z", false), ("LinkHouse$Name", "address", "J", false), ("LinkHouse$Name", "slot", "I", false), ("LinkHouse$Name", "threadSlot", "I", false), ("LinkHouse$Name", "number", "I", false)],
  [("LinkHouse$Names", "names", "[LLinkHouse$Name;", true), ("LinkHouse$Names", "none", "LLinkHouse$Name;", true), ("LinkHouse$Names", "count", "I", false)],
  [("LinkHouse$ObjectFile", "store", "LLinkHouse$Row;", true), ("LinkHouse$ObjectFile", "file", "I", true), ("LinkHouse$ObjectFile", "member", "I", true), ("LinkHouse$ObjectFile", "groups", "[B", true), ("LinkHouse$ObjectFile", "kind", "I", false), ("LinkHouse$ObjectFile", "base", "I", false), ("LinkHouse$ObjectFile", "size", "I", false), ("LinkHouse$ObjectFile", "rows", "I", false), ("LinkHouse$ObjectFile", "sections", "I", false), ("LinkHouse$ObjectFile", "symbolsAt", "I", false), ("LinkHouse$ObjectFile", "symbolPlace", "I", false), ("LinkHouse$ObjectFile", "symbols", "I", false), ("LinkHouse$ObjectFile", "namePlace", "I", false), ("LinkHouse$ObjectFile", "nameSize", "I", false), ("LinkHouse$ObjectFile", "stringsBits", "I", false), ("LinkHouse$ObjectFile", "taken", "Z", false), ("LinkHouse$ObjectFile", "cause", "I", false)],
  [("LinkHouse$Part", "object", "I", false), ("LinkHouse$Part", "file", "I", false), ("LinkHouse$Part", "member", "I", false), ("LinkHouse$Part", "number", "I", false), ("LinkHouse$Part", "group", "I", false), ("LinkHouse$Part", "size", "I", false), ("LinkHouse$Part", "align", "I", false), ("LinkHouse$Part", "start", "I", false), ("LinkHouse$Part", "state", "I", false), ("LinkHouse$Part", "stays", "Z", false), ("LinkHouse$Part", "strings", "Z", false), ("LinkHouse$Part", "address", "J", false), ("LinkHouse$Part", "fresh", "I", false)],
  [("LinkHouse$Pool", "store", "LLinkHouse$Row;", true), ("LinkHouse$Pool", "starts", "[I", true), ("LinkHouse$Pool", "lengths", "[I", true), ("LinkHouse$Pool", "count", "I", false), ("LinkHouse$Pool", "size", "I", false), ("LinkHouse$Pool", "address", "J", false)],
  [("LinkHouse$Row", "bytes", "[B", true), ("LinkHouse$Row", "size", "I", false), ("LinkHouse$Row", "over", "Z", false)],
  [("LinkHouse$Scribe", "link", "LLinkHouse$Link;", true), ("LinkHouse$Scribe", "layout", "LLinkHouse$Layout;", true), ("LinkHouse$Scribe", "store", "LLinkHouse$Row;", true), ("LinkHouse$Scribe", "rows", "LLinkHouse$Row;", true), ("LinkHouse$Scribe", "locals", "[I", true), ("LinkHouse$Scribe", "listed", "[LLinkHouse$Name;", true), ("LinkHouse$Scribe", "listedCount", "I", false), ("LinkHouse$Scribe", "localCount", "I", false), ("LinkHouse$Scribe", "symbolsSection", "I", false)],
  [("LinkHouseModel", "thrown", "I", false), ("LinkHouseModel", "tape", "[B", true), ("LinkHouseModel", "tapeSize", "I", false), ("LinkHouseModel", "out", "[B", true), ("LinkHouseModel", "outSize", "I", false), ("LinkHouseModel", "files", "I", false), ("LinkHouseModel", "bytes", "[B", true), ("LinkHouseModel", "fileSize", "[I", true), ("LinkHouseModel", "memberCount", "[I", true), ("LinkHouseModel", "memberAt", "[I", true), ("LinkHouseModel", "memberSize", "[I", true), ("LinkHouseModel", "isArchive", "[Z", true), ("LinkHouseModel", "isSkipped", "[Z", true), ("LinkHouseModel", "answer", "I", false), ("LinkHouseModel", "takenMany", "I", false), ("LinkHouseModel", "segments", "I", false), ("LinkHouseModel", "ranOver", "J", false), ("LinkHouseModel", "taken", "[I", true), ("LinkHouseModel", "isTaken", "[Z", true), ("LinkHouseModel", "wasThere", "[Z", true), ("LinkHouseModel", "names", "I", false), ("LinkHouseModel", "nameText", "[B", true), ("LinkHouseModel", "nameLength", "[I", true), ("LinkHouseModel", "strength", "[I", true), ("LinkHouseModel", "byObject", "[I", true), ("LinkHouseModel", "bySymbol", "[I", true), ("LinkHouseModel", "commonSize", "[I", true), ("LinkHouseModel", "commonValue", "[I", true), ("LinkHouseModel", "isWanted", "[Z", true), ("LinkHouseModel", "nameAddress", "[J", true), ("LinkHouseModel", "nameGiven", "[J", true), ("LinkHouseModel", "givenMany", "I", false), ("LinkHouseModel", "wishedMany", "I", false), ("LinkHouseModel", "givenText", "[B", true), ("LinkHouseModel", "wishedText", "[B", true), ("LinkHouseModel", "givenLength", "[I", true), ("LinkHouseModel", "wishedLength", "[I", true), ("LinkHouseModel", "givenValue", "[J", true), ("LinkHouseModel", "nameInfo", "[I", true), ("LinkHouseModel", "nameSegment", "[I", true), ("LinkHouseModel", "causeName", "[I", true), ("LinkHouseModel", "nameSize", "[J", true), ("LinkHouseModel", "linked", "[B", true), ("LinkHouseModel", "linkedSize", "I", false), ("LinkHouseModel", "memoryNames", "I", false), ("LinkHouseModel", "memoryAt", "[I", true), ("LinkHouseModel", "memoryLength", "[I", true), ("LinkHouseModel", "memoryValue", "[J", true), ("LinkHouseModel", "defined", "I", false), ("LinkHouseModel", "definedName", "[I", true), ("LinkHouseModel", "laid", "I", false), ("LinkHouseModel", "laidObject", "[I", true), ("LinkHouseModel", "laidFile", "[I", true), ("LinkHouseModel", "laidMember", "[I", true), ("LinkHouseModel", "laidNumber", "[I", true), ("LinkHouseModel", "laidGroup", "[I", true), ("LinkHouseModel", "laidSize", "[I", true), ("LinkHouseModel", "laidAddress", "[J", true), ("LinkHouseModel", "sectionAddress", "[J", true), ("LinkHouseModel", "isThere", "[Z", true), ("LinkHouseModel", "filePlace", "[J", true), ("LinkHouseModel", "segmentAddress", "[J", true), ("LinkHouseModel", "fileBytes", "[J", true), ("LinkHouseModel", "memoryBytes", "[J", true), ("LinkHouseModel", "fileEnd", "J", false), ("LinkHouseModel", "dropped", "[Z", true), ("LinkHouseModel", "reachedSection", "[Z", true), ("LinkHouseModel", "reachedName", "[Z", true), ("LinkHouseModel", "onlyReached", "Z", false), ("LinkHouseModel", "droppedMany", "I", false), ("LinkHouseModel", "signs", "I", false), ("LinkHouseModel", "signAt", "[I", true), ("LinkHouseModel", "signEnd", "[I", true), ("LinkHouseModel", "ownKind", "[I", true), ("LinkHouseModel", "slots", "I", false), ("LinkHouseModel", "slotName", "[I", true), ("LinkHouseModel", "slotObject", "[I", true), ("LinkHouseModel", "slotSymbol", "[I", true), ("LinkHouseModel", "slotThread", "[Z", true), ("LinkHouseModel", "slotPlace", "J", false), ("LinkHouseModel", "textEnd", "J", false), ("LinkHouseModel", "bssPlace", "J", false), ("LinkHouseModel", "hasTemplate", "Z", false), ("LinkHouseModel", "templateBegin", "J", false), ("LinkHouseModel", "templateFile", "J", false), ("LinkHouseModel", "templateMemory", "J", false), ("LinkHouseModel", "templateAlign", "J", false), ("LinkHouseModel", "threadPoint", "J", false), ("LinkHouseModel", "poolSize", "I", false), ("LinkHouseModel", "nodes", "I", false), ("LinkHouseModel", "poolPlace", "J", false), ("LinkHouseModel", "pool", "[B", true), ("LinkHouseModel", "child", "[I", true), ("LinkHouseModel", "sibling", "[I", true), ("LinkHouseModel", "poolEnd", "[I", true), ("LinkHouseModel", "letter", "[B", true), ("LinkHouseModel", "inGroup", "[Z", true), ("LinkHouseModel", "ownText", "[B", true), ("LinkHouseModel", "changed", "Z", false), ("LinkHouseModel", "tried", "[B", true), ("LinkHouseModel", "image", "[B", true), ("LinkHouseModel", "triedSize", "I", false), ("LinkHouseModel", "loaded", "I", false), ("LinkHouseModel", "bootError", "I", false), ("LinkHouseModel", "entry", "J", false), ("LinkHouseModel", "rowFlags", "[J", true), ("LinkHouseModel", "rowPlace", "[J", true), ("LinkHouseModel", "rowAddress", "[J", true), ("LinkHouseModel", "rowFile", "[J", true), ("LinkHouseModel", "rowMemory", "[J", true), ("LinkHouseModel", "newFlags", "[J", true), ("LinkHouseModel", "newPlace", "[J", true), ("LinkHouseModel", "newAddress", "[J", true), ("LinkHouseModel", "newFile", "[J", true), ("LinkHouseModel", "newMemory", "[J", true), ("LinkHouseModel", "newRows", "I", false), ("LinkHouseModel", "startText", "[B", true), ("LinkHouseModel", "newSection", "[I", true), ("LinkHouseModel", "newSymbol", "[I", true), ("LinkHouseModel", "newName", "[I", true), ("LinkHouseModel", "partObject", "[I", true), ("LinkHouseModel", "partNumber", "[I", true), ("LinkHouseModel", "nameAtPlace", "[I", true), ("LinkHouseModel", "parts", "I", false), ("LinkHouseModel", "firstName", "I", false), ("LinkHouseModel", "allSymbols", "I", false), ("LinkHouseModel", "isFull", "Z", false), ("LinkHouseModel", "objects", "I", false), ("LinkHouseModel", "objectAt", "[I", true), ("LinkHouseModel", "objectSize", "[I", true)],
  [],
  [],
  []]
def pg_T (ci : Nat) : u_T := fun k => (pg_FL.getD ci []).getD k ("", "", "", false)
def pg_nfl : List Nat := [18, 5, 19, 20, 13, 18, 3, 17, 13, 6, 3, 9, 130, 0, 0, 0]
def pg_nf (ci : Nat) : Nat := pg_nfl.getD ci 0
def pg_cl : List vw_C := (List.range 16).map (fun ci => (pg_cn ci, pg_T ci, pg_nf ci))
def pg_ftl : List (List FieldType) := [
  [(.object "LinkHouse$Row"), (.object "LinkHouse$Row"), (.object "LinkHouse$Row"), (.object "LinkHouse$Row"), (.array (.object "LinkHouse$ObjectFile")), (.array .int), .int, (.array .int), (.object "LinkHouse$Names"), (.object "LinkHouse$Names"), (.object "LinkHouse$Name"), (.object "LinkHouse$Link"), (.object "LinkHouse$Pool"), (.object "LinkHouse$Layout"), (.object "LinkHouse$Filler"), (.object "LinkHouse$Scribe"), (.object "LinkHouse$Memory"), .int],
  [(.object "LinkHouse$Link"), (.object "LinkHouse$Layout"), (.object "LinkHouse$Pool"), (.object "LinkHouse$Row"), (.object "LinkHouse$Row")],
  [(.object "LinkHouse$Link"), (.object "LinkHouse$Pool"), (.array (.object "LinkHouse$Part")), (.object "LinkHouse$Part"), (.array .boolean), (.array .long), (.array .long), (.array .long), (.array .long), (.array .int), (.array .int), .int, .int, .long, .long, .long, .long, .long, .long],
  [(.array (.object "LinkHouse$ObjectFile")), (.object "LinkHouse$Names"), (.object "LinkHouse$Names"), (.object "LinkHouse$Names"), (.array (.object "LinkHouse$Part")), (.object "LinkHouse$Part"), (.array (.object "LinkHouse$ObjectFile")), (.object "LinkHouse$ObjectFile"), (.array (.object "LinkHouse$Name")), (.array (.object "LinkHouse$Name")), (.array (.object "LinkHouse$Part")), (.object "LinkHouse$Name"), (.object "LinkHouse$Name"), (.object "LinkHouse$Name"), .int, .int, .int, .int, .int, .long],
  [(.object "LinkHouse$Row"), (.array .long), (.array .long), (.array .long), (.array .int), (.array .long), .int, .long, .int, .int, .int, .int, .int],
  [.long, .long, .long, .int, .int, .int, (.object "LinkHouse$Part"), .long, .long, .int, .boolean, .boolean, .boolean, .boolean, .long, .int, .int, .int],
  [(.array (.object "LinkHouse$Name")), (.object "LinkHouse$Name"), .int],
  [(.object "LinkHouse$Row"), .int, .int, (.array .byte), .int, .int, .int, .int, .int, .int, .int, .int, .int, .int, .int, .boolean, .int],
  [.int, .int, .int, .int, .int, .int, .int, .int, .int, .boolean, .boolean, .long, .int],
  [(.object "LinkHouse$Row"), (.array .int), (.array .int), .int, .int, .long],
  [(.array .byte), .int, .boolean],
  [(.object "LinkHouse$Link"), (.object "LinkHouse$Layout"), (.object "LinkHouse$Row"), (.object "LinkHouse$Row"), (.array .int), (.array (.object "LinkHouse$Name")), .int, .int, .int],
  [.int, (.array .byte), .int, (.array .byte), .int, .int, (.array .byte), (.array .int), (.array .int), (.array .int), (.array .int), (.array .boolean), (.array .boolean), .int, .int, .int, .long, (.array .int), (.array .boolean), (.array .boolean), .int, (.array .byte), (.array .int), (.array .int), (.array .int), (.array .int), (.array .int), (.array .int), (.array .boolean), (.array .long), (.array .long), .int, .int, (.array .byte), (.array .byte), (.array .int), (.array .int), (.array .long), (.array .int), (.array .int), (.array .int), (.array .long), (.array .byte), .int, .int, (.array .int), (.array .int), (.array .long), .int, (.array .int), .int, (.array .int), (.array .int), (.array .int), (.array .int), (.array .int), (.array .int), (.array .long), (.array .long), (.array .boolean), (.array .long), (.array .long), (.array .long), (.array .long), .long, (.array .boolean), (.array .boolean), (.array .boolean), .boolean, .int, .int, (.array .int), (.array .int), (.array .int), .int, (.array .int), (.array .int), (.array .int), (.array .boolean), .long, .long, .long, .boolean, .long, .long, .long, .long, .long, .int, .int, .long, (.array .byte), (.array .int), (.array .int), (.array .int), (.array .byte), (.array .boolean), (.array .byte), .boolean, (.array .byte), (.array .byte), .int, .int, .int, .long, (.array .long), (.array .long), (.array .long), (.array .long), (.array .long), (.array .long), (.array .long), (.array .long), (.array .long), (.array .long), .int, (.array .byte), (.array .int), (.array .int), (.array .int), (.array .int), (.array .int), (.array .int), .int, .int, .int, .boolean, .int, (.array .int), (.array .int)],
  [],
  [],
  []]
def pg_ftp (ci k : Nat) : FieldType := (pg_ftl.getD ci []).getD k .int
def pg_inl : List Nat := [18, 5, 19, 20, 13, 18, 3, 17, 13, 6, 3, 9, 130, 6, 6, 6]
def pg_in (ci : Nat) : Nat := pg_inl.getD ci 0
def pg_nc : Nat := 7
def pg_sf : List (String × String × String × Nat) := [("LinkHouse", "ARCHIVE", "[B", 1), ("LinkHouse", "SEGMENT_FLAGS", "[I", 2), ("LinkHouse", "ELF", "[B", 3), ("LinkHouse", "LAYOUT_ORDER", "[I", 4), ("LinkHouse", "SEGMENT_OF", "[I", 5), ("LinkHouse", "ROW_FLAGS", "[I", 6)]
def pg_ki : List Int32 := [65536, 65522, 65521, 32769, 1000000000, 81920, 65540]
def pg_kl : List Int64 := [18, 2, 4, 9, 11, 22, 23, 41, 42, -1, -9223372036854775808, 2656, 10, 48, 4096, 16, 62, 64, 56, 139, 141, 21, 59495, 233, 144, 8, 4194304, 4095, 65536, 17, 24, -4, 140737488355328, 3, 16384, 1024, 1536, 47, 111, 32, 46, 738142165265366049, 282584257676671, -2147483648, 2147483647, 5, 6, 7, 65521, 15, 4294967295]
def pg_nsx : List Nat := [162, 272, 284, 364, 545, 1386, 1516, 1611, 1726, 1779, 1896, 1910, 1950, 1020, 1370, 1441, 1468, 1666, 1691, 1767, 1885, 2024]
def pg_Ns : List Cond := pg_nsx.filterMap pg_tb
def pg_isN : Cond → Bool
  | .fieldLinkNest .. => true
  | .methodLinkNest .. => true
  | _ => false
theorem pg_nsb : pg_Ns.all pg_isN = true := by decide +kernel
theorem pg_nsf (w : Cond) (h : w ∈ pg_Ns) : (∃ a i b n d q, w = .fieldLinkNest a i b n d q) ∨ ∃ a i x q, w = .methodLinkNest a i x q := by
  have h1 := List.all_eq_true.mp pg_nsb w h
  cases w <;> first | (simp [pg_isN] at h1; done) | exact Or.inl ⟨_, _, _, _, _, _, rfl⟩ | exact Or.inr ⟨_, _, _, _, rfl⟩
def pg_Ao : List String := ["LinkHouse$ObjectFile", "LinkHouse$Name", "LinkHouse$Part"]
def pg_lix : List (List Nat) := [
  [759, 761, 763, 765, 767, 769, 771, 773, 775, 777, 779, 781, 783, 785, 787, 789, 791, 793],
  [640, 642, 644, 646, 648],
  [584, 586, 588, 590, 592, 594, 596, 598, 600, 602, 604, 606, 608, 610, 612, 614, 616, 618, 620],
  [464, 466, 468, 470, 472, 474, 476, 478, 480, 482, 484, 486, 488, 490, 492, 494, 496, 498, 500, 502],
  [714, 716, 718, 720, 722, 724, 726, 728, 730, 732, 734, 736, 738],
  [218, 220, 222, 224, 226, 228, 230, 232, 234, 236, 238, 240, 242, 244, 246, 248, 250, 252],
  [264, 266, 268],
  [117, 119, 121, 123, 125, 127, 129, 131, 133, 135, 137, 139, 141, 143, 145, 147, 149],
  [334, 336, 338, 340, 342, 344, 346, 348, 350, 352, 354, 356, 358],
  [525, 527, 529, 531, 533, 535],
  [61, 63, 65],
  [669, 671, 673, 675, 677, 679, 681, 683, 685],
  [2304, 2306, 2308, 2310, 2312, 2314, 2316, 2318, 2320, 2322, 2324, 2326, 2328, 2330, 2332, 2334, 2336, 2338, 2340, 2342, 2344, 2346, 2348, 2350, 2352, 2354, 2356, 2358, 2360, 2362, 2364, 2366, 2368, 2370, 2372, 2374, 2376, 2378, 2380, 2382, 2384, 2386, 2388, 2390, 2392, 2394, 2396, 2398, 2400, 2402, 2404, 2406, 2408, 2410, 2412, 2414, 2416, 2418, 2420, 2422, 2424, 2426, 2428, 2430, 2432, 2434, 2436, 2438, 2440, 2442, 2444, 2446, 2448, 2450, 2452, 2454, 2456, 2458, 2460, 2462, 2464, 2466, 2468, 2470, 2472, 2474, 2476, 2478, 2480, 2482, 2484, 2486, 2488, 2490, 2492, 2494, 2496, 2498, 2500, 2502, 2504, 2506, 2508, 2510, 2512, 2514, 2516, 2518, 2520, 2522, 2524, 2526, 2528, 2530, 2532, 2534, 2536, 2538, 2540, 2542, 2544, 2546, 2548, 2550, 2552, 2554, 2556, 2558, 2560, 2562],
  [],
  [],
  []]
def pg_iix : List Nat := [32, 626, 539, 274, 689, 161, 153, 72, 283, 506, 40, 652, 2166, 1050, 1830, 2045]
def pg_jix : List Nat := [1, 15, 14, 7, 17, 6, 5, 4, 8, 13, 2, 16, 18, 22, 23, 30]
def pg_clck (ci : Nat) : Bool :=
  (List.range (pg_nf ci)).all (fun k => decide (parseFieldDescriptor (pg_T ci k).2.2.1 = some (pg_ftp ci k)) && (List.range (pg_nf ci)).all (fun j => decide (k = j) || decide ((pg_T ci k).2.1 ≠ (pg_T ci j).2.1)) && decide (pg_tb ((pg_lix.getD ci []).getD k 0) = some (u_lay (pg_cn ci) (pg_T ci) k)) && goodWord (u_lay (pg_cn ci) (pg_T ci) k)) &&
  (decide (pg_tb (pg_iix.getD ci 0) = some (Cond.instantiable (pg_cn ci) (pg_in ci))) && (goodWord (Cond.instantiable (pg_cn ci) (pg_in ci)) && (decide (pg_tb (pg_jix.getD ci 0) = some (Cond.initialized (pg_cn ci))) && goodWord (Cond.initialized (pg_cn ci)))))
theorem pg_clck_0 : pg_clck 0 = true := by decide +kernel
theorem pg_clck_1 : pg_clck 1 = true := by decide +kernel
theorem pg_clck_2 : pg_clck 2 = true := by decide +kernel
theorem pg_clck_3 : pg_clck 3 = true := by decide +kernel
theorem pg_clck_4 : pg_clck 4 = true := by decide +kernel
theorem pg_clck_5 : pg_clck 5 = true := by decide +kernel
theorem pg_clck_6 : pg_clck 6 = true := by decide +kernel
theorem pg_clck_7 : pg_clck 7 = true := by decide +kernel
theorem pg_clck_8 : pg_clck 8 = true := by decide +kernel
theorem pg_clck_9 : pg_clck 9 = true := by decide +kernel
theorem pg_clck_10 : pg_clck 10 = true := by decide +kernel
theorem pg_clck_11 : pg_clck 11 = true := by decide +kernel
theorem pg_clck_12 : pg_clck 12 = true := by decide +kernel
theorem pg_clck_13 : pg_clck 13 = true := by decide +kernel
theorem pg_clck_14 : pg_clck 14 = true := by decide +kernel
theorem pg_clck_15 : pg_clck 15 = true := by decide +kernel
theorem pg_clok : ∀ ci, ci < 16 → pg_clck ci = true := by
  have h : ∀ ci ∈ [0, 1, 2, 3, 4, 5, 6, 7, 8, 9, 10, 11, 12, 13, 14, 15], pg_clck ci = true := by
    simp only [List.forall_mem_cons]
    exact ⟨pg_clck_0, pg_clck_1, pg_clck_2, pg_clck_3, pg_clck_4, pg_clck_5, pg_clck_6, pg_clck_7, pg_clck_8, pg_clck_9, pg_clck_10, pg_clck_11, pg_clck_12, pg_clck_13, pg_clck_14, pg_clck_15, fun _ h => absurd h List.not_mem_nil⟩
  exact fun ci hc => h ci (by have := List.mem_range.mpr hc; exact this)
theorem pg_cla {ci : Nat} {C : String} {T : u_T} {N : Nat} (h : pg_cl[ci]? = some (C, T, N)) : ci < 16 ∧ C = pg_cn ci ∧ T = pg_T ci ∧ N = pg_nf ci := by
  have hlt : ci < 16 := by
    have := (List.getElem?_eq_some_iff.mp h).1
    simpa [pg_cl] using this
  simp only [pg_cl, List.getElem?_map, List.getElem?_range hlt, Option.map_some, Option.some.injEq, Prod.mk.injEq] at h
  exact ⟨hlt, h.1.symm, h.2.1.symm, h.2.2.symm⟩
theorem pg_clb {ci : Nat} (h : ci < 16) : pg_cl[ci]? = some (pg_cn ci, pg_T ci, pg_nf ci) := by
  simp only [pg_cl, List.getElem?_map, List.getElem?_range h, Option.map_some]
theorem pg_cls {ci : Nat} {C : String} {T : u_T} {N : Nat} (h : pg_cl[ci]? = some (C, T, N)) : (∀ k, k < N → parseFieldDescriptor (T k).2.2.1 = some (pg_ftp ci k)) ∧ ∀ a, a < N → ∀ b, b < N → a ≠ b → (T a).2.1 ≠ (T b).2.1 := by
  obtain ⟨hlt, rfl, rfl, rfl⟩ := pg_cla h
  have h1 := pg_clok ci hlt
  simp only [pg_clck, Bool.and_eq_true, List.all_eq_true, List.mem_range, decide_eq_true_eq, Bool.or_eq_true] at h1
  exact ⟨fun k hk => (h1.1 k hk).1.1.1, fun a ha b hb hne => ((h1.1 a ha).1.1.2 b hb).resolve_left hne⟩
theorem pg_cin {ci : Nat} {C : String} {T : u_T} {N : Nat} (h : pg_cl[ci]? = some (C, T, N)) : ∀ w ∈ u_ws C T N, w ∈ pg_Ts := by
  obtain ⟨hlt, rfl, rfl, rfl⟩ := pg_cla h
  have h1 := pg_clok ci hlt
  simp only [pg_clck, Bool.and_eq_true, List.all_eq_true, List.mem_range, decide_eq_true_eq, Bool.or_eq_true] at h1
  intro w hw
  obtain ⟨k, hk, rfl⟩ := List.mem_map.mp hw
  have h2 := h1.1 k (List.mem_range.mp hk)
  exact pg_at h2.1.2 h2.2
theorem pg_cii {ci : Nat} (hlt : ci < 16) : Cond.instantiable (pg_cn ci) (pg_in ci) ∈ pg_Ts ∧ Cond.initialized (pg_cn ci) ∈ pg_Ts := by
  have h1 := pg_clok ci hlt
  simp only [pg_clck, Bool.and_eq_true, decide_eq_true_eq] at h1
  exact ⟨pg_at h1.2.1 h1.2.2.1, pg_at h1.2.2.2.1 h1.2.2.2.2⟩
end
section
/-! methods: names, code, links -/
def pg_mn0 : List (MethodName × ByteArray × Nat × Option FieldType × Nat × Nat) := [
  (⟨"LinkHouse", "<init>", "()V"⟩, prog_1_method_1_code, 2, none, 0, 0),
  (⟨"LinkHouse", "link", "(Z)I"⟩, prog_1_method_5_code, 2, (some .int), 1, 0),
  (⟨"LinkHouse", "runLink", "(Z)I"⟩, prog_1_method_27_code, 3, (some .int), 1, 0),
  (⟨"LinkHouse", "up", "(JJ)J"⟩, prog_1_method_37_code, 4, (some .long), 2, 0),
  (⟨"LinkHouse", "siteWidth", "(J)I"⟩, prog_1_method_39_code, 2, (some .int), 1, 0),
  (⟨"LinkHouse", "merge", "()I"⟩, prog_1_method_6_code, 2, (some .int), 0, 0),
  (⟨"LinkHouse", "publishDraft", "()I"⟩, prog_1_method_28_code, 2, (some .int), 0, 0),
  (⟨"LinkHouse", "forget", "()V"⟩, prog_1_method_9_code, 1, none, 0, 0),
  (⟨"LinkHouse", "pack", "()I"⟩, prog_1_method_10_code, 1, (some .int), 0, 0),
  (⟨"LinkHouse", "near", "(J)J"⟩, prog_1_method_12_code, 4, (some .long), 1, 0),
  (⟨"LinkHouse", "above", "(JJ)Z"⟩, prog_1_method_36_code, 4, (some .boolean), 2, 0),
  (⟨"LinkHouse", "boot", "(Z)I"⟩, prog_1_method_21_code, 3, (some .int), 1, 0),
  (⟨"LinkHouse", "peek", "(J)I"⟩, prog_1_method_22_code, 3, (some .int), 1, 0),
  (⟨"LinkHouse", "flags", "(J)J"⟩, prog_1_method_23_code, 3, (some .long), 1, 0),
  (⟨"LinkHouse", "feed", "(IJ)I"⟩, prog_1_method_2_code, 4, (some .int), 2, 0),
  (⟨"LinkHouse", "add", "()I"⟩, prog_1_method_3_code, 2, (some .int), 0, 0)]
def pg_mn1 : List (MethodName × ByteArray × Nat × Option FieldType × Nat × Nat) := [
  (⟨"LinkHouse", "readFile", "(I)I"⟩, prog_1_method_33_code, 3, (some .int), 1, 0),
  (⟨"LinkHouse", "readArchive", "(II)I"⟩, prog_1_method_34_code, 7, (some .int), 2, 0),
  (⟨"LinkHouse", "memberSize", "(I)I"⟩, prog_1_method_35_code, 7, (some .int), 1, 0),
  (⟨"LinkHouse", "isPower", "(J)Z"⟩, prog_1_method_38_code, 2, (some .boolean), 1, 0),
  (⟨"LinkHouse", "clearFile", "(I)V"⟩, prog_1_method_32_code, 3, none, 1, 0),
  (⟨"LinkHouse", "drop", "()I"⟩, prog_1_method_4_code, 1, (some .int), 0, 0),
  (⟨"LinkHouse", "give", "(J)I"⟩, prog_1_method_7_code, 4, (some .int), 1, 0),
  (⟨"LinkHouse", "readTapeName", "()Z"⟩, prog_1_method_29_code, 4, (some .boolean), 0, 0),
  (⟨"LinkHouse", "wish", "()I"⟩, prog_1_method_8_code, 2, (some .int), 0, 0),
  (⟨"LinkHouse", "named", "()I"⟩, prog_1_method_11_code, 1, (some .int), 0, 0),
  (⟨"LinkHouse", "list", "(II)I"⟩, prog_1_method_13_code, 4, (some .int), 2, 0),
  (⟨"LinkHouse", "objectAt", "(II)LLinkHouse$ObjectFile;"⟩, prog_1_method_31_code, 4, (some (.object "LinkHouse$ObjectFile")), 2, 0),
  (⟨"LinkHouse", "memberAt", "(II)LLinkHouse$ObjectFile;"⟩, prog_1_method_30_code, 4, (some (.object "LinkHouse$ObjectFile")), 2, 0),
  (⟨"LinkHouse", "sum", "(III)J"⟩, prog_1_method_14_code, 8, (some .long), 3, 0),
  (⟨"LinkHouse", "map", "()I"⟩, prog_1_method_15_code, 1, (some .int), 0, 0),
  (⟨"LinkHouse", "address", "()J"⟩, prog_1_method_16_code, 2, (some .long), 0, 0)]
def pg_mn2 : List (MethodName × ByteArray × Nat × Option FieldType × Nat × Nat) := [
  (⟨"LinkHouse", "taken", "(II)Z"⟩, prog_1_method_17_code, 4, (some .boolean), 2, 0),
  (⟨"LinkHouse", "cause", "(II)I"⟩, prog_1_method_18_code, 4, (some .int), 2, 0),
  (⟨"LinkHouse", "section", "(II)I"⟩, prog_1_method_19_code, 4, (some .int), 2, 0),
  (⟨"LinkHouse", "place", "(I)J"⟩, prog_1_method_20_code, 2, (some .long), 1, 0),
  (⟨"LinkHouse", "out", "(I)J"⟩, prog_1_method_24_code, 2, (some .long), 1, 0),
  (⟨"LinkHouse", "look", "(I)J"⟩, prog_1_method_25_code, 2, (some .long), 1, 0),
  (⟨"LinkHouse", "lookAtLink", "(I)J"⟩, prog_1_method_26_code, 4, (some .long), 1, 0),
  (⟨"LinkHouse$Filler", "<init>", "(LLinkHouse$Link;LLinkHouse$Layout;LLinkHouse$Pool;LLinkHouse$Row;)V"⟩, prog_2_method_1_code, 5, none, 4, 1),
  (⟨"LinkHouse$Filler", "write", "()V"⟩, prog_2_method_2_code, 3, none, 0, 1),
  (⟨"LinkHouse$Filler", "writeHead", "()V"⟩, prog_2_method_3_code, 2, none, 0, 1),
  (⟨"LinkHouse$Filler", "writeRow", "(IIIJ)V"⟩, prog_2_method_4_code, 6, none, 4, 1),
  (⟨"LinkHouse$Filler", "spotOf", "(LLinkHouse$Part;)I"⟩, prog_2_method_5_code, 3, (some .int), 1, 1),
  (⟨"LinkHouse$Filler", "fillSites", "()Z"⟩, prog_2_method_6_code, 8, (some .boolean), 0, 1),
  (⟨"LinkHouse$Filler", "fillSite", "(IILLinkHouse$Part;)Z"⟩, prog_2_method_7_code, 15, (some .boolean), 3, 1),
  (⟨"LinkHouse$Filler", "fillShort", "(IILLinkHouse$Part;)Z"⟩, prog_2_method_10_code, 12, (some .boolean), 3, 1),
  (⟨"LinkHouse$Filler", "slotAddress", "(IIZ)J"⟩, prog_2_method_8_code, 4, (some .long), 3, 1)]
def pg_mn3 : List (MethodName × ByteArray × Nat × Option FieldType × Nat × Nat) := [
  (⟨"LinkHouse$Filler", "sumFor", "(IIIJ)J"⟩, prog_2_method_9_code, 9, (some .long), 4, 1),
  (⟨"LinkHouse$Layout", "<init>", "(LLinkHouse$Link;LLinkHouse$Pool;)V"⟩, prog_3_method_1_code, 3, none, 2, 2),
  (⟨"LinkHouse$Layout", "lay", "()V"⟩, prog_3_method_6_code, 3, none, 0, 2),
  (⟨"LinkHouse$Layout", "gather", "()V"⟩, prog_3_method_7_code, 4, none, 0, 2),
  (⟨"LinkHouse$Layout", "findSlots", "()V"⟩, prog_3_method_8_code, 8, none, 0, 2),
  (⟨"LinkHouse$Layout", "findSlot", "(IILLinkHouse$Part;)V"⟩, prog_3_method_9_code, 11, none, 3, 2),
  (⟨"LinkHouse$Layout", "slotOf", "(IIZ)I"⟩, prog_3_method_11_code, 5, (some .int), 3, 2),
  (⟨"LinkHouse$Layout", "slotKey", "(IIZ)I"⟩, prog_3_method_10_code, 5, (some .int), 3, 2),
  (⟨"LinkHouse$Layout", "findSegments", "()V"⟩, prog_3_method_13_code, 3, none, 0, 2),
  (⟨"LinkHouse$Layout", "partAt", "(I)LLinkHouse$Part;"⟩, prog_3_method_2_code, 3, (some (.object "LinkHouse$Part")), 1, 2),
  (⟨"LinkHouse$Layout", "segmentOf", "(LLinkHouse$Part;)I"⟩, prog_3_method_3_code, 2, (some .int), 1, 2),
  (⟨"LinkHouse$Layout", "isLaidCommon", "(LLinkHouse$Name;)Z"⟩, prog_3_method_14_code, 1, (some .boolean), 1, 2),
  (⟨"LinkHouse$Layout", "layText", "()V"⟩, prog_3_method_15_code, 8, none, 0, 2),
  (⟨"LinkHouse$Layout", "countSegments", "()I"⟩, prog_3_method_4_code, 3, (some .int), 0, 2),
  (⟨"LinkHouse$Layout", "layData", "()V"⟩, prog_3_method_16_code, 6, none, 0, 2),
  (⟨"LinkHouse$Layout", "layGroup", "(IJ)J"⟩, prog_3_method_19_code, 8, (some .long), 2, 2)]
def pg_mn4 : List (MethodName × ByteArray × Nat × Option FieldType × Nat × Nat) := [
  (⟨"LinkHouse$Layout", "layTemplate", "(JJ)V"⟩, prog_3_method_17_code, 9, none, 2, 2),
  (⟨"LinkHouse$Layout", "firstOf", "(I)LLinkHouse$Part;"⟩, prog_3_method_18_code, 3, (some (.object "LinkHouse$Part")), 1, 2),
  (⟨"LinkHouse$Layout", "addressOf", "(LLinkHouse$Name;)J"⟩, prog_3_method_20_code, 2, (some .long), 1, 2),
  (⟨"LinkHouse$Layout", "ownAddress", "(I)J"⟩, prog_3_method_21_code, 2, (some .long), 1, 2),
  (⟨"LinkHouse$Layout", "isTooLarge", "()Z"⟩, prog_3_method_5_code, 2, (some .boolean), 0, 2),
  (⟨"LinkHouse$Layout", "slotValue", "(I)J"⟩, prog_3_method_12_code, 6, (some .long), 1, 2),
  (⟨"LinkHouse$Layout", "symbolAddress", "(II)J"⟩, prog_3_method_22_code, 8, (some .long), 2, 2),
  (⟨"LinkHouse$Link", "<init>", "([LLinkHouse$ObjectFile;LLinkHouse$Names;LLinkHouse$Names;LLinkHouse$Row;)V"⟩, prog_4_method_1_code, 6, none, 4, 3),
  (⟨"LinkHouse$Link", "resolve", "(Z)I"⟩, prog_4_method_9_code, 5, (some .int), 1, 3),
  (⟨"LinkHouse$Link", "begin", "()V"⟩, prog_4_method_10_code, 3, none, 0, 3),
  (⟨"LinkHouse$Link", "define", "(LLinkHouse$Name;IILLinkHouse$Part;JJI)V"⟩, prog_4_method_21_code, 10, none, 7, 3),
  (⟨"LinkHouse$Link", "takeObject", "(LLinkHouse$ObjectFile;)Z"⟩, prog_4_method_14_code, 3, (some .boolean), 1, 3),
  (⟨"LinkHouse$Link", "openParts", "(ILLinkHouse$ObjectFile;)V"⟩, prog_4_method_15_code, 6, none, 2, 3),
  (⟨"LinkHouse$Link", "part", "(II)LLinkHouse$Part;"⟩, prog_4_method_3_code, 4, (some (.object "LinkHouse$Part")), 2, 3),
  (⟨"LinkHouse$Link", "enterNames", "(ILLinkHouse$ObjectFile;)V"⟩, prog_4_method_16_code, 5, none, 2, 3),
  (⟨"LinkHouse$Link", "dropGroups", "(ILLinkHouse$ObjectFile;)V"⟩, prog_4_method_17_code, 6, none, 2, 3)]
def pg_mn5 : List (MethodName × ByteArray × Nat × Option FieldType × Nat × Nat) := [
  (⟨"LinkHouse$Link", "nameOf", "(II)LLinkHouse$Name;"⟩, prog_4_method_4_code, 5, (some (.object "LinkHouse$Name")), 2, 3),
  (⟨"LinkHouse$Link", "dropParts", "(ILLinkHouse$ObjectFile;II)V"⟩, prog_4_method_18_code, 7, none, 4, 3),
  (⟨"LinkHouse$Link", "defineNames", "(ILLinkHouse$ObjectFile;)Z"⟩, prog_4_method_19_code, 7, (some .boolean), 2, 3),
  (⟨"LinkHouse$Link", "settle", "(LLinkHouse$Name;ILLinkHouse$ObjectFile;I)Z"⟩, prog_4_method_20_code, 12, (some .boolean), 4, 3),
  (⟨"LinkHouse$Link", "takeMembers", "(I)Z"⟩, prog_4_method_12_code, 7, (some .boolean), 1, 3),
  (⟨"LinkHouse$Link", "firstWanted", "(LLinkHouse$ObjectFile;)I"⟩, prog_4_method_13_code, 4, (some .int), 1, 3),
  (⟨"LinkHouse$Link", "isWanted", "(LLinkHouse$Name;)Z"⟩, prog_4_method_11_code, 1, (some .boolean), 1, 3),
  (⟨"LinkHouse$Link", "defineOwn", "(Ljava/lang/String;I)V"⟩, prog_4_method_22_code, 4, none, 2, 3),
  (⟨"LinkHouse$Link", "isNameLeft", "()Z"⟩, prog_4_method_23_code, 4, (some .boolean), 0, 3),
  (⟨"LinkHouse$Link", "keepReached", "()V"⟩, prog_4_method_24_code, 3, none, 0, 3),
  (⟨"LinkHouse$Link", "definedAt", "(I)LLinkHouse$Name;"⟩, prog_4_method_5_code, 3, (some (.object "LinkHouse$Name")), 1, 3),
  (⟨"LinkHouse$Link", "reachName", "(LLinkHouse$Name;)V"⟩, prog_4_method_25_code, 2, none, 1, 3),
  (⟨"LinkHouse$Link", "reachPart", "(LLinkHouse$Part;)V"⟩, prog_4_method_26_code, 2, none, 1, 3),
  (⟨"LinkHouse$Link", "reachFrom", "(LLinkHouse$Part;)V"⟩, prog_4_method_27_code, 7, none, 1, 3),
  (⟨"LinkHouse$Link", "object", "(I)LLinkHouse$ObjectFile;"⟩, prog_4_method_2_code, 3, (some (.object "LinkHouse$ObjectFile")), 1, 3),
  (⟨"LinkHouse$Link", "reachSymbol", "(II)V"⟩, prog_4_method_28_code, 4, none, 2, 3)]
def pg_mn6 : List (MethodName × ByteArray × Nat × Option FieldType × Nat × Nat) := [
  (⟨"LinkHouse$Link", "partOf", "(II)LLinkHouse$Part;"⟩, prog_4_method_6_code, 8, (some (.object "LinkHouse$Part")), 2, 3),
  (⟨"LinkHouse$Link", "stayingTarget", "(II)LLinkHouse$Part;"⟩, prog_4_method_7_code, 5, (some (.object "LinkHouse$Part")), 2, 3),
  (⟨"LinkHouse$Link", "isShort", "(IILLinkHouse$Part;)Z"⟩, prog_4_method_29_code, 13, (some .boolean), 3, 3),
  (⟨"LinkHouse$Link", "countStaying", "()I"⟩, prog_4_method_8_code, 3, (some .int), 0, 3),
  (⟨"LinkHouse$Memory", "<init>", "()V"⟩, prog_5_method_1_code, 1, none, 0, 4),
  (⟨"LinkHouse$Memory", "rowAt", "(J)I"⟩, prog_5_method_10_code, 4, (some .int), 1, 4),
  (⟨"LinkHouse$Memory", "nearest", "(J)I"⟩, prog_5_method_9_code, 6, (some .int), 1, 4),
  (⟨"LinkHouse$Memory", "valueOf", "(I)J"⟩, prog_5_method_7_code, 2, (some .long), 1, 4),
  (⟨"LinkHouse$Memory", "isName", "(I)Z"⟩, prog_5_method_6_code, 6, (some .boolean), 1, 4),
  (⟨"LinkHouse$Memory", "nameStart", "(I)I"⟩, prog_5_method_8_code, 2, (some .int), 1, 4),
  (⟨"LinkHouse$Memory", "errorOf", "(LLinkHouse$Row;)I"⟩, prog_5_method_2_code, 16, (some .int), 1, 4),
  (⟨"LinkHouse$Memory", "rowError", "(LLinkHouse$Row;IJ)I"⟩, prog_5_method_3_code, 14, (some .int), 3, 4),
  (⟨"LinkHouse$Memory", "load", "(LLinkHouse$Row;)V"⟩, prog_5_method_4_code, 6, none, 1, 4),
  (⟨"LinkHouse$Memory", "findNames", "()V"⟩, prog_5_method_5_code, 11, none, 0, 4),
  (⟨"LinkHouse$Memory", "byteAt", "(J)I"⟩, prog_5_method_11_code, 6, (some .int), 1, 4),
  (⟨"LinkHouse$Memory", "flagsAt", "(J)J"⟩, prog_5_method_12_code, 4, (some .long), 1, 4)]
def pg_mn7 : List (MethodName × ByteArray × Nat × Option FieldType × Nat × Nat) := [
  (⟨"LinkHouse$Name", "<init>", "()V"⟩, prog_6_method_1_code, 1, none, 0, 5),
  (⟨"LinkHouse$Name", "setText", "(Ljava/lang/String;)V"⟩, prog_6_method_5_code, 3, none, 1, 5),
  (⟨"LinkHouse$Name", "wipe", "()V"⟩, prog_6_method_2_code, 1, none, 0, 5),
  (⟨"LinkHouse$Name", "append", "(I)V"⟩, prog_6_method_3_code, 4, none, 1, 5),
  (⟨"LinkHouse$Name", "renew", "(LLinkHouse$Name;)V"⟩, prog_6_method_6_code, 2, none, 1, 5),
  (⟨"LinkHouse$Name", "read", "(LLinkHouse$Row;I)V"⟩, prog_6_method_4_code, 4, none, 2, 5),
  (⟨"LinkHouse$Name", "isMissedOrWished", "()Z"⟩, prog_6_method_8_code, 1, (some .boolean), 0, 5),
  (⟨"LinkHouse$Name", "writeTo", "(LLinkHouse$Row;)V"⟩, prog_6_method_9_code, 5, none, 1, 5),
  (⟨"LinkHouse$Name", "isDefinedByInput", "()Z"⟩, prog_6_method_7_code, 1, (some .boolean), 0, 5),
  (⟨"LinkHouse$Names", "<init>", "(I)V"⟩, prog_7_method_1_code, 2, none, 1, 6),
  (⟨"LinkHouse$Names", "at", "(I)LLinkHouse$Name;"⟩, prog_7_method_2_code, 3, (some (.object "LinkHouse$Name")), 1, 6),
  (⟨"LinkHouse$Names", "enter", "(LLinkHouse$Name;)LLinkHouse$Name;"⟩, prog_7_method_4_code, 3, (some (.object "LinkHouse$Name")), 1, 6),
  (⟨"LinkHouse$Names", "find", "(LLinkHouse$Name;)LLinkHouse$Name;"⟩, prog_7_method_3_code, 4, (some (.object "LinkHouse$Name")), 1, 6),
  (⟨"LinkHouse$ObjectFile", "<init>", "(LLinkHouse$Row;II)V"⟩, prog_8_method_1_code, 4, none, 3, 7),
  (⟨"LinkHouse$ObjectFile", "groupOf", "(J)I"⟩, prog_8_method_12_code, 3, (some .int), 1, 7),
  (⟨"LinkHouse$ObjectFile", "lengthOf", "(I)J"⟩, prog_8_method_8_code, 2, (some .long), 1, 7)]
def pg_mn8 : List (MethodName × ByteArray × Nat × Option FieldType × Nat × Nat) := [
  (⟨"LinkHouse$ObjectFile", "num", "(II)J"⟩, prog_8_method_3_code, 7, (some .long), 2, 7),
  (⟨"LinkHouse$ObjectFile", "alignOf", "(I)J"⟩, prog_8_method_11_code, 2, (some .long), 1, 7),
  (⟨"LinkHouse$ObjectFile", "placeOf", "(I)J"⟩, prog_8_method_7_code, 2, (some .long), 1, 7),
  (⟨"LinkHouse$ObjectFile", "isStrings", "(I)Z"⟩, prog_8_method_34_code, 2, (some .boolean), 1, 7),
  (⟨"LinkHouse$ObjectFile", "bindOf", "(I)I"⟩, prog_8_method_15_code, 2, (some .int), 1, 7),
  (⟨"LinkHouse$ObjectFile", "nameStart", "(I)I"⟩, prog_8_method_20_code, 2, (some .int), 1, 7),
  (⟨"LinkHouse$ObjectFile", "typeOf", "(I)J"⟩, prog_8_method_5_code, 2, (some .long), 1, 7),
  (⟨"LinkHouse$ObjectFile", "infoOf", "(I)J"⟩, prog_8_method_10_code, 2, (some .long), 1, 7),
  (⟨"LinkHouse$ObjectFile", "whereOf", "(I)I"⟩, prog_8_method_17_code, 2, (some .int), 1, 7),
  (⟨"LinkHouse$ObjectFile", "isDefining", "(I)Z"⟩, prog_8_method_19_code, 2, (some .boolean), 1, 7),
  (⟨"LinkHouse$ObjectFile", "targetOf", "(I)I"⟩, prog_8_method_13_code, 4, (some .int), 1, 7),
  (⟨"LinkHouse$ObjectFile", "sitesOf", "(I)I"⟩, prog_8_method_14_code, 2, (some .int), 1, 7),
  (⟨"LinkHouse$ObjectFile", "valueOf", "(I)J"⟩, prog_8_method_18_code, 2, (some .long), 1, 7),
  (⟨"LinkHouse$ObjectFile", "kindOf", "(I)I"⟩, prog_8_method_16_code, 2, (some .int), 1, 7),
  (⟨"LinkHouse$ObjectFile", "flagsOf", "(I)J"⟩, prog_8_method_6_code, 2, (some .long), 1, 7),
  (⟨"LinkHouse$ObjectFile", "open", "(III)V"⟩, prog_8_method_2_code, 4, none, 3, 7)]
def pg_mn9 : List (MethodName × ByteArray × Nat × Option FieldType × Nat × Nat) := [
  (⟨"LinkHouse$ObjectFile", "readError", "([I)I"⟩, prog_8_method_21_code, 4, (some .int), 1, 7),
  (⟨"LinkHouse$ObjectFile", "isHeadGood", "()Z"⟩, prog_8_method_22_code, 2, (some .boolean), 0, 7),
  (⟨"LinkHouse$ObjectFile", "areRowsGood", "()Z"⟩, prog_8_method_23_code, 4, (some .boolean), 0, 7),
  (⟨"LinkHouse$ObjectFile", "holds", "(JJ)Z"⟩, prog_8_method_4_code, 5, (some .boolean), 2, 7),
  (⟨"LinkHouse$ObjectFile", "sectionsError", "()I"⟩, prog_8_method_24_code, 7, (some .int), 0, 7),
  (⟨"LinkHouse$ObjectFile", "findGroup", "(JJ)I"⟩, prog_8_method_25_code, 4, (some .int), 2, 7),
  (⟨"LinkHouse$ObjectFile", "findSymbols", "()Z"⟩, prog_8_method_26_code, 5, (some .boolean), 0, 7),
  (⟨"LinkHouse$ObjectFile", "linkOf", "(I)J"⟩, prog_8_method_9_code, 2, (some .long), 1, 7),
  (⟨"LinkHouse$ObjectFile", "isSymbolGood", "(I)Z"⟩, prog_8_method_27_code, 5, (some .boolean), 1, 7),
  (⟨"LinkHouse$ObjectFile", "isNameGood", "(I)Z"⟩, prog_8_method_28_code, 5, (some .boolean), 1, 7),
  (⟨"LinkHouse$ObjectFile", "areSitesGood", "([I)Z"⟩, prog_8_method_29_code, 7, (some .boolean), 1, 7),
  (⟨"LinkHouse$ObjectFile", "isSiteGood", "(II[I)Z"⟩, prog_8_method_30_code, 11, (some .boolean), 3, 7),
  (⟨"LinkHouse$ObjectFile", "areGroupsGood", "()Z"⟩, prog_8_method_31_code, 11, (some .boolean), 0, 7),
  (⟨"LinkHouse$ObjectFile", "findStrings", "()V"⟩, prog_8_method_32_code, 3, none, 0, 7),
  (⟨"LinkHouse$ObjectFile", "isStringRow", "(I)Z"⟩, prog_8_method_33_code, 4, (some .boolean), 1, 7),
  (⟨"LinkHouse$Part", "<init>", "()V"⟩, prog_9_method_1_code, 1, none, 0, 8)]
def pg_mn10 : List (MethodName × ByteArray × Nat × Option FieldType × Nat × Nat) := [
  (⟨"LinkHouse$Pool", "<init>", "(LLinkHouse$Row;)V"⟩, prog_10_method_1_code, 2, none, 1, 9),
  (⟨"LinkHouse$Pool", "clear", "()V"⟩, prog_10_method_2_code, 1, none, 0, 9),
  (⟨"LinkHouse$Pool", "collect", "(LLinkHouse$Part;)V"⟩, prog_10_method_3_code, 5, none, 1, 9),
  (⟨"LinkHouse$Pool", "admit", "(II)V"⟩, prog_10_method_4_code, 5, none, 2, 9),
  (⟨"LinkHouse$Pool", "isEnd", "(IIII)Z"⟩, prog_10_method_5_code, 8, (some .boolean), 4, 9),
  (⟨"LinkHouse$Pool", "addressIn", "(LLinkHouse$Part;J)J"⟩, prog_10_method_6_code, 11, (some .long), 2, 9),
  (⟨"LinkHouse$Row", "<init>", "(I)V"⟩, prog_11_method_1_code, 2, none, 1, 10),
  (⟨"LinkHouse$Row", "at", "(I)I"⟩, prog_11_method_3_code, 2, (some .int), 1, 10),
  (⟨"LinkHouse$Row", "clear", "()V"⟩, prog_11_method_2_code, 1, none, 0, 10),
  (⟨"LinkHouse$Row", "putAll", "([B)V"⟩, prog_11_method_10_code, 3, none, 1, 10),
  (⟨"LinkHouse$Row", "put", "(IJ)V"⟩, prog_11_method_8_code, 5, none, 2, 10),
  (⟨"LinkHouse$Row", "fillTo", "(JI)V"⟩, prog_11_method_14_code, 5, none, 2, 10),
  (⟨"LinkHouse$Row", "cover", "(I[BII)V"⟩, prog_11_method_16_code, 5, none, 4, 10),
  (⟨"LinkHouse$Row", "set", "(IIJ)V"⟩, prog_11_method_13_code, 7, none, 3, 10),
  (⟨"LinkHouse$Row", "copy", "([BII)V"⟩, prog_11_method_15_code, 4, none, 3, 10),
  (⟨"LinkHouse$Row", "putDecimal", "(I)V"⟩, prog_11_method_11_code, 3, none, 1, 10)]
def pg_mn11 : List (MethodName × ByteArray × Nat × Option FieldType × Nat × Nat) := [
  (⟨"LinkHouse$Row", "putHighestFirst", "(I)V"⟩, prog_11_method_9_code, 3, none, 1, 10),
  (⟨"LinkHouse$Row", "num", "(II)J"⟩, prog_11_method_4_code, 6, (some .long), 2, 10),
  (⟨"LinkHouse$Row", "nameLength", "(II)I"⟩, prog_11_method_6_code, 4, (some .int), 2, 10),
  (⟨"LinkHouse$Row", "begins", "([B)Z"⟩, prog_11_method_7_code, 3, (some .boolean), 1, 10),
  (⟨"LinkHouse$Row", "holds", "(JJ)Z"⟩, prog_11_method_5_code, 5, (some .boolean), 2, 10),
  (⟨"LinkHouse$Row", "putHex", "(J)V"⟩, prog_11_method_12_code, 5, none, 1, 10),
  (⟨"LinkHouse$Scribe", "<init>", "(LLinkHouse$Link;LLinkHouse$Layout;LLinkHouse$Row;)V"⟩, prog_12_method_1_code, 4, none, 3, 11),
  (⟨"LinkHouse$Scribe", "writeMerged", "(LLinkHouse$Row;)Z"⟩, prog_12_method_10_code, 4, (some .boolean), 1, 11),
  (⟨"LinkHouse$Scribe", "numberParts", "()I"⟩, prog_12_method_11_code, 5, (some .int), 0, 11),
  (⟨"LinkHouse$Scribe", "numberSymbols", "()I"⟩, prog_12_method_12_code, 6, (some .int), 0, 11),
  (⟨"LinkHouse$Scribe", "listName", "(LLinkHouse$Name;)V"⟩, prog_12_method_13_code, 2, none, 1, 11),
  (⟨"LinkHouse$Scribe", "mergeParts", "(LLinkHouse$Row;I)V"⟩, prog_12_method_14_code, 8, none, 2, 11),
  (⟨"LinkHouse$Scribe", "nextPlace", "(LLinkHouse$Row;)I"⟩, prog_12_method_17_code, 1, (some .int), 1, 11),
  (⟨"LinkHouse$Scribe", "putRow", "(JJJJII)V"⟩, prog_12_method_18_code, 11, none, 6, 11),
  (⟨"LinkHouse$Scribe", "endRow", "(JI)V"⟩, prog_12_method_19_code, 4, none, 2, 11),
  (⟨"LinkHouse$Scribe", "mergeSites", "(LLinkHouse$Row;I)V"⟩, prog_12_method_15_code, 9, none, 2, 11)]
def pg_mn12 : List (MethodName × ByteArray × Nat × Option FieldType × Nat × Nat) := [
  (⟨"LinkHouse$Scribe", "freshSymbol", "(II)I"⟩, prog_12_method_16_code, 5, (some .int), 2, 11),
  (⟨"LinkHouse$Scribe", "mergeSymbols", "(LLinkHouse$Row;)V"⟩, prog_12_method_20_code, 6, none, 1, 11),
  (⟨"LinkHouse$Scribe", "mergeLocal", "(LLinkHouse$Row;II)V"⟩, prog_12_method_21_code, 10, none, 3, 11),
  (⟨"LinkHouse$Scribe", "putSymbol", "(LLinkHouse$Row;IIIJJ)V"⟩, prog_12_method_23_code, 8, none, 6, 11),
  (⟨"LinkHouse$Scribe", "mergeName", "(LLinkHouse$Row;LLinkHouse$Name;I)V"⟩, prog_12_method_22_code, 5, none, 3, 11),
  (⟨"LinkHouse$Scribe", "mergeNames", "(LLinkHouse$Row;)V"⟩, prog_12_method_24_code, 4, none, 1, 11),
  (⟨"LinkHouse$Scribe", "writePacked", "(LLinkHouse$Row;[LLinkHouse$ObjectFile;)Z"⟩, prog_12_method_5_code, 9, (some .boolean), 2, 11),
  (⟨"LinkHouse$Scribe", "isObject", "(LLinkHouse$ObjectFile;)Z"⟩, prog_12_method_6_code, 1, (some .boolean), 1, 11),
  (⟨"LinkHouse$Scribe", "writeIndex", "(LLinkHouse$Row;[LLinkHouse$ObjectFile;II)V"⟩, prog_12_method_7_code, 10, none, 4, 11),
  (⟨"LinkHouse$Scribe", "writeAhead", "(LLinkHouse$Row;II)V"⟩, prog_12_method_9_code, 3, none, 3, 11),
  (⟨"LinkHouse$Scribe", "writeObjects", "(LLinkHouse$Row;[LLinkHouse$ObjectFile;)V"⟩, prog_12_method_8_code, 7, none, 2, 11),
  (⟨"LinkHouse$Scribe", "writeNamed", "(LLinkHouse$Row;LLinkHouse$Row;)Z"⟩, prog_12_method_25_code, 8, (some .boolean), 2, 11),
  (⟨"LinkHouse$Scribe", "rowOf", "(LLinkHouse$Name;)I"⟩, prog_12_method_26_code, 7, (some .int), 1, 11),
  (⟨"LinkHouse$Scribe", "writeSegmentRows", "()V"⟩, prog_12_method_27_code, 2, none, 0, 11),
  (⟨"LinkHouse$Scribe", "writeList", "(LLinkHouse$Row;LLinkHouse$ObjectFile;)V"⟩, prog_12_method_2_code, 4, none, 2, 11),
  (⟨"LinkHouse$Scribe", "letterOf", "(LLinkHouse$ObjectFile;I)I"⟩, prog_12_method_3_code, 6, (some .int), 2, 11)]
def pg_mn13 : List (MethodName × ByteArray × Nat × Option FieldType × Nat × Nat) := [
  (⟨"LinkHouse$Scribe", "writeMap", "(LLinkHouse$Row;)Z"⟩, prog_12_method_4_code, 4, (some .boolean), 1, 11),
  (⟨"LinkHouseModel", "<init>", "()V"⟩, prog_14_method_1_code, 1, none, 0, 12),
  (⟨"LinkHouseModel", "thrown", "()I"⟩, prog_14_method_2_code, 1, (some .int), 0, 12),
  (⟨"LinkHouseModel", "feed", "(IJ)I"⟩, prog_14_method_4_code, 6, (some .int), 2, 12),
  (⟨"LinkHouseModel", "throwing", "(ZZ)Z"⟩, prog_14_method_3_code, 3, (some .boolean), 2, 12),
  (⟨"LinkHouseModel", "add", "()I"⟩, prog_14_method_47_code, 3, (some .int), 0, 12),
  (⟨"LinkHouseModel", "fileError", "(II)I"⟩, prog_14_method_46_code, 6, (some .int), 2, 12),
  (⟨"LinkHouseModel", "num", "(II)J"⟩, prog_14_method_5_code, 6, (some .long), 2, 12),
  (⟨"LinkHouseModel", "objectError", "(II)I"⟩, prog_14_method_44_code, 6, (some .int), 2, 12),
  (⟨"LinkHouseModel", "isHeader", "(I)Z"⟩, prog_14_method_28_code, 3, (some .boolean), 1, 12),
  (⟨"LinkHouseModel", "sections", "(I)I"⟩, prog_14_method_6_code, 2, (some .int), 1, 12),
  (⟨"LinkHouseModel", "lies", "(JJJ)Z"⟩, prog_14_method_27_code, 6, (some .boolean), 3, 12),
  (⟨"LinkHouseModel", "type", "(II)J"⟩, prog_14_method_8_code, 3, (some .long), 2, 12),
  (⟨"LinkHouseModel", "row", "(II)I"⟩, prog_14_method_7_code, 3, (some .int), 2, 12),
  (⟨"LinkHouseModel", "sectionError", "(III)I"⟩, prog_14_method_29_code, 5, (some .int), 3, 12),
  (⟨"LinkHouseModel", "beginning", "(II)J"⟩, prog_14_method_10_code, 3, (some .long), 2, 12)]
def pg_mn14 : List (MethodName × ByteArray × Nat × Option FieldType × Nat × Nat) := [
  (⟨"LinkHouseModel", "size", "(II)J"⟩, prog_14_method_11_code, 3, (some .long), 2, 12),
  (⟨"LinkHouseModel", "isKept", "(II)Z"⟩, prog_14_method_15_code, 3, (some .boolean), 2, 12),
  (⟨"LinkHouseModel", "flagsOf", "(II)J"⟩, prog_14_method_9_code, 3, (some .long), 2, 12),
  (⟨"LinkHouseModel", "align", "(II)J"⟩, prog_14_method_14_code, 3, (some .long), 2, 12),
  (⟨"LinkHouseModel", "isPower", "(J)Z"⟩, prog_14_method_26_code, 2, (some .boolean), 1, 12),
  (⟨"LinkHouseModel", "symbolsError", "(I)I"⟩, prog_14_method_30_code, 7, (some .int), 1, 12),
  (⟨"LinkHouseModel", "symbols", "(I)I"⟩, prog_14_method_17_code, 3, (some .int), 1, 12),
  (⟨"LinkHouseModel", "linkOf", "(II)J"⟩, prog_14_method_12_code, 3, (some .long), 2, 12),
  (⟨"LinkHouseModel", "symbolMany", "(I)I"⟩, prog_14_method_18_code, 3, (some .int), 1, 12),
  (⟨"LinkHouseModel", "isSymbol", "(II)Z"⟩, prog_14_method_31_code, 6, (some .boolean), 2, 12),
  (⟨"LinkHouseModel", "where", "(II)I"⟩, prog_14_method_21_code, 3, (some .int), 2, 12),
  (⟨"LinkHouseModel", "symbol", "(II)I"⟩, prog_14_method_19_code, 3, (some .int), 2, 12),
  (⟨"LinkHouseModel", "bind", "(II)I"⟩, prog_14_method_20_code, 3, (some .int), 2, 12),
  (⟨"LinkHouseModel", "isName", "(II)Z"⟩, prog_14_method_32_code, 9, (some .boolean), 2, 12),
  (⟨"LinkHouseModel", "value", "(II)J"⟩, prog_14_method_22_code, 3, (some .long), 2, 12),
  (⟨"LinkHouseModel", "symbolSize", "(II)J"⟩, prog_14_method_23_code, 3, (some .long), 2, 12)]
def pg_mn15 : List (MethodName × ByteArray × Nat × Option FieldType × Nat × Nat) := [
  (⟨"LinkHouseModel", "sitesError", "(I)I"⟩, prog_14_method_39_code, 4, (some .int), 1, 12),
  (⟨"LinkHouseModel", "isSites", "(II)Z"⟩, prog_14_method_35_code, 3, (some .boolean), 2, 12),
  (⟨"LinkHouseModel", "info", "(II)J"⟩, prog_14_method_13_code, 3, (some .long), 2, 12),
  (⟨"LinkHouseModel", "siteMany", "(II)I"⟩, prog_14_method_36_code, 3, (some .int), 2, 12),
  (⟨"LinkHouseModel", "isSite", "(III)Z"⟩, prog_14_method_38_code, 12, (some .boolean), 3, 12),
  (⟨"LinkHouseModel", "site", "(III)I"⟩, prog_14_method_37_code, 4, (some .int), 3, 12),
  (⟨"LinkHouseModel", "width", "(J)I"⟩, prog_14_method_34_code, 2, (some .int), 1, 12),
  (⟨"LinkHouseModel", "isSlotted", "(J)Z"⟩, prog_14_method_33_code, 2, (some .boolean), 1, 12),
  (⟨"LinkHouseModel", "groupsError", "(I)I"⟩, prog_14_method_43_code, 3, (some .int), 1, 12),
  (⟨"LinkHouseModel", "isGroup", "(II)Z"⟩, prog_14_method_40_code, 3, (some .boolean), 2, 12),
  (⟨"LinkHouseModel", "isGroupRight", "(II)Z"⟩, prog_14_method_42_code, 7, (some .boolean), 2, 12),
  (⟨"LinkHouseModel", "groupNumber", "(III)J"⟩, prog_14_method_41_code, 4, (some .long), 3, 12),
  (⟨"LinkHouseModel", "isMembers", "(II)Z"⟩, prog_14_method_45_code, 9, (some .boolean), 2, 12),
  (⟨"LinkHouseModel", "drop", "()I"⟩, prog_14_method_48_code, 1, (some .int), 0, 12),
  (⟨"LinkHouseModel", "give", "(J)I"⟩, prog_14_method_57_code, 7, (some .int), 1, 12),
  (⟨"LinkHouseModel", "isTapeName", "()Z"⟩, prog_14_method_56_code, 3, (some .boolean), 0, 12)]
def pg_mn16 : List (MethodName × ByteArray × Nat × Option FieldType × Nat × Nat) := [
  (⟨"LinkHouseModel", "toldAt", "([B[II)I"⟩, prog_14_method_55_code, 7, (some .int), 3, 12),
  (⟨"LinkHouseModel", "wish", "()I"⟩, prog_14_method_58_code, 5, (some .int), 0, 12),
  (⟨"LinkHouseModel", "forget", "()V"⟩, prog_14_method_59_code, 1, none, 0, 12),
  (⟨"LinkHouseModel", "link", "(Z)I"⟩, prog_14_method_115_code, 3, (some .int), 1, 12),
  (⟨"LinkHouseModel", "tellNames", "()V"⟩, prog_14_method_53_code, 3, none, 0, 12),
  (⟨"LinkHouseModel", "entered", "([BII)I"⟩, prog_14_method_51_code, 6, (some .int), 3, 12),
  (⟨"LinkHouseModel", "find", "([BII)I"⟩, prog_14_method_49_code, 7, (some .int), 3, 12),
  (⟨"LinkHouseModel", "takeAll", "()V"⟩, prog_14_method_70_code, 2, none, 0, 12),
  (⟨"LinkHouseModel", "takeFrom", "(I)V"⟩, prog_14_method_69_code, 6, none, 1, 12),
  (⟨"LinkHouseModel", "helps", "(I)I"⟩, prog_14_method_68_code, 5, (some .int), 1, 12),
  (⟨"LinkHouseModel", "nameOf", "(II)I"⟩, prog_14_method_50_code, 3, (some .int), 2, 12),
  (⟨"LinkHouseModel", "nameAt", "(II)I"⟩, prog_14_method_24_code, 3, (some .int), 2, 12),
  (⟨"LinkHouseModel", "nameEnd", "(II)I"⟩, prog_14_method_25_code, 4, (some .int), 2, 12),
  (⟨"LinkHouseModel", "take", "(I)V"⟩, prog_14_method_67_code, 6, none, 1, 12),
  (⟨"LinkHouseModel", "dropGroups", "(I)V"⟩, prog_14_method_66_code, 5, none, 1, 12),
  (⟨"LinkHouseModel", "object", "(I)I"⟩, prog_14_method_71_code, 2, (some .int), 1, 12)]
def pg_mn17 : List (MethodName × ByteArray × Nat × Option FieldType × Nat × Nat) := [
  (⟨"LinkHouseModel", "isAgain", "(II)Z"⟩, prog_14_method_65_code, 8, (some .boolean), 2, 12),
  (⟨"LinkHouseModel", "enter", "(II)I"⟩, prog_14_method_52_code, 3, (some .int), 2, 12),
  (⟨"LinkHouseModel", "come", "(III)Z"⟩, prog_14_method_63_code, 6, (some .boolean), 3, 12),
  (⟨"LinkHouseModel", "strengthOf", "(II)I"⟩, prog_14_method_61_code, 3, (some .int), 2, 12),
  (⟨"LinkHouseModel", "whereNow", "(II)I"⟩, prog_14_method_60_code, 4, (some .int), 2, 12),
  (⟨"LinkHouseModel", "say", "([BII)V"⟩, prog_14_method_64_code, 5, none, 3, 12),
  (⟨"LinkHouseModel", "ownNames", "()V"⟩, prog_14_method_72_code, 4, none, 0, 12),
  (⟨"LinkHouseModel", "look2", "()V"⟩, prog_14_method_83_code, 5, none, 0, 12),
  (⟨"LinkHouseModel", "start", "()I"⟩, prog_14_method_84_code, 2, (some .int), 0, 12),
  (⟨"LinkHouseModel", "reach", "()V"⟩, prog_14_method_76_code, 3, none, 0, 12),
  (⟨"LinkHouseModel", "reachName", "(I)V"⟩, prog_14_method_74_code, 2, none, 1, 12),
  (⟨"LinkHouseModel", "isGiven", "(I)Z"⟩, prog_14_method_54_code, 2, (some .boolean), 1, 12),
  (⟨"LinkHouseModel", "reachSection", "(II)V"⟩, prog_14_method_73_code, 3, none, 2, 12),
  (⟨"LinkHouseModel", "reachSites", "(I)V"⟩, prog_14_method_75_code, 6, none, 1, 12),
  (⟨"LinkHouseModel", "lay", "()V"⟩, prog_14_method_86_code, 6, none, 0, 12),
  (⟨"LinkHouseModel", "stays", "(II)Z"⟩, prog_14_method_62_code, 3, (some .boolean), 2, 12)]
def pg_mn18 : List (MethodName × ByteArray × Nat × Option FieldType × Nat × Nat) := [
  (⟨"LinkHouseModel", "group", "(II)I"⟩, prog_14_method_16_code, 4, (some .int), 2, 12),
  (⟨"LinkHouseModel", "findPool", "()V"⟩, prog_14_method_93_code, 7, none, 0, 12),
  (⟨"LinkHouseModel", "isStrings", "(II)Z"⟩, prog_14_method_89_code, 5, (some .boolean), 2, 12),
  (⟨"LinkHouseModel", "nodeOf", "(IIZ)I"⟩, prog_14_method_91_code, 6, (some .int), 3, 12),
  (⟨"LinkHouseModel", "childOf", "(IBZ)I"⟩, prog_14_method_90_code, 5, (some .int), 3, 12),
  (⟨"LinkHouseModel", "toPool", "(II)V"⟩, prog_14_method_92_code, 6, none, 2, 12),
  (⟨"LinkHouseModel", "findSlots", "()V"⟩, prog_14_method_82_code, 8, none, 0, 12),
  (⟨"LinkHouseModel", "isShort", "(III)Z"⟩, prog_14_method_81_code, 4, (some .boolean), 3, 12),
  (⟨"LinkHouseModel", "shortKind", "(III)I"⟩, prog_14_method_80_code, 13, (some .int), 3, 12),
  (⟨"LinkHouseModel", "isInside", "(II)Z"⟩, prog_14_method_78_code, 5, (some .boolean), 2, 12),
  (⟨"LinkHouseModel", "isSectionNow", "(II)Z"⟩, prog_14_method_79_code, 3, (some .boolean), 2, 12),
  (⟨"LinkHouseModel", "slotOf", "(IIZ)I"⟩, prog_14_method_77_code, 7, (some .int), 3, 12),
  (⟨"LinkHouseModel", "layout", "()V"⟩, prog_14_method_102_code, 4, none, 0, 12),
  (⟨"LinkHouseModel", "findSegments", "()V"⟩, prog_14_method_95_code, 3, none, 0, 12),
  (⟨"LinkHouseModel", "segmentOf", "(I)I"⟩, prog_14_method_87_code, 1, (some .int), 1, 12),
  (⟨"LinkHouseModel", "isCommon", "(I)Z"⟩, prog_14_method_88_code, 2, (some .boolean), 1, 12)]
def pg_mn19 : List (MethodName × ByteArray × Nat × Option FieldType × Nat × Nat) := [
  (⟨"LinkHouseModel", "isThreaded", "()Z"⟩, prog_14_method_99_code, 3, (some .boolean), 0, 12),
  (⟨"LinkHouseModel", "placeSegment", "(IJ)V"⟩, prog_14_method_101_code, 10, none, 2, 12),
  (⟨"LinkHouseModel", "up", "(JJ)J"⟩, prog_14_method_85_code, 4, (some .long), 2, 12),
  (⟨"LinkHouseModel", "placeGroup", "(IJZ)J"⟩, prog_14_method_96_code, 10, (some .long), 3, 12),
  (⟨"LinkHouseModel", "placeStrings", "(J)J"⟩, prog_14_method_98_code, 5, (some .long), 1, 12),
  (⟨"LinkHouseModel", "byteAddress", "(IIJ)J"⟩, prog_14_method_94_code, 7, (some .long), 3, 12),
  (⟨"LinkHouseModel", "placeCommons", "(JZ)J"⟩, prog_14_method_97_code, 8, (some .long), 2, 12),
  (⟨"LinkHouseModel", "findTemplate", "()V"⟩, prog_14_method_100_code, 7, none, 0, 12),
  (⟨"LinkHouseModel", "ownAddress", "(I)J"⟩, prog_14_method_103_code, 2, (some .long), 1, 12),
  (⟨"LinkHouseModel", "own", "(II)J"⟩, prog_14_method_104_code, 5, (some .long), 2, 12),
  (⟨"LinkHouseModel", "sites", "(Z)V"⟩, prog_14_method_110_code, 6, none, 1, 12),
  (⟨"LinkHouseModel", "one", "(IIIZ)V"⟩, prog_14_method_111_code, 11, none, 4, 12),
  (⟨"LinkHouseModel", "siteValue", "(III)J"⟩, prog_14_method_108_code, 12, (some .long), 3, 12),
  (⟨"LinkHouseModel", "symbolAddress", "(II)J"⟩, prog_14_method_105_code, 3, (some .long), 2, 12),
  (⟨"LinkHouseModel", "siteAddress", "(III)J"⟩, prog_14_method_106_code, 4, (some .long), 3, 12),
  (⟨"LinkHouseModel", "isOfStrings", "(II)Z"⟩, prog_14_method_107_code, 5, (some .boolean), 2, 12)]
def pg_mn20 : List (MethodName × ByteArray × Nat × Option FieldType × Nat × Nat) := [
  (⟨"LinkHouseModel", "fillSite", "(IJII)V"⟩, prog_14_method_112_code, 6, none, 4, 12),
  (⟨"LinkHouseModel", "put", "(IJI)V"⟩, prog_14_method_113_code, 6, none, 3, 12),
  (⟨"LinkHouseModel", "runsOver", "(JJ)Z"⟩, prog_14_method_109_code, 5, (some .boolean), 2, 12),
  (⟨"LinkHouseModel", "write", "()V"⟩, prog_14_method_114_code, 7, none, 0, 12),
  (⟨"LinkHouseModel", "keepLink", "()V"⟩, prog_14_method_116_code, 6, none, 0, 12),
  (⟨"LinkHouseModel", "named", "()I"⟩, prog_14_method_118_code, 11, (some .int), 0, 12),
  (⟨"LinkHouseModel", "wider", "(I)I"⟩, prog_14_method_129_code, 2, (some .int), 1, 12),
  (⟨"LinkHouseModel", "numberOf", "(I)I"⟩, prog_14_method_117_code, 4, (some .int), 1, 12),
  (⟨"LinkHouseModel", "namedSegment", "(II)V"⟩, prog_14_method_119_code, 3, none, 2, 12),
  (⟨"LinkHouseModel", "cause", "(II)I"⟩, prog_14_method_120_code, 4, (some .int), 2, 12),
  (⟨"LinkHouseModel", "sum", "(III)J"⟩, prog_14_method_121_code, 9, (some .long), 3, 12),
  (⟨"LinkHouseModel", "merge", "()I"⟩, prog_14_method_140_code, 2, (some .int), 0, 12),
  (⟨"LinkHouseModel", "merges", "()Z"⟩, prog_14_method_132_code, 3, (some .boolean), 0, 12),
  (⟨"LinkHouseModel", "countParts", "()V"⟩, prog_14_method_123_code, 4, none, 0, 12),
  (⟨"LinkHouseModel", "part", "(II)V"⟩, prog_14_method_122_code, 3, none, 2, 12),
  (⟨"LinkHouseModel", "countSymbols", "()V"⟩, prog_14_method_125_code, 3, none, 0, 12)]
def pg_mn21 : List (MethodName × ByteArray × Nat × Option FieldType × Nat × Nat) := [
  (⟨"LinkHouseModel", "numberName", "(I)V"⟩, prog_14_method_124_code, 2, none, 1, 12),
  (⟨"LinkHouseModel", "mergedRow", "(I)I"⟩, prog_14_method_131_code, 2, (some .int), 1, 12),
  (⟨"LinkHouseModel", "placeOf", "(I)I"⟩, prog_14_method_130_code, 4, (some .int), 1, 12),
  (⟨"LinkHouseModel", "partSize", "(I)I"⟩, prog_14_method_127_code, 2, (some .int), 1, 12),
  (⟨"LinkHouseModel", "isPart", "(IJ)Z"⟩, prog_14_method_126_code, 4, (some .boolean), 2, 12),
  (⟨"LinkHouseModel", "textMany", "()I"⟩, prog_14_method_128_code, 3, (some .int), 0, 12),
  (⟨"LinkHouseModel", "mergedSites", "(I)V"⟩, prog_14_method_135_code, 7, none, 1, 12),
  (⟨"LinkHouseModel", "mergedRows", "(IJJIIJJ)V"⟩, prog_14_method_133_code, 13, none, 7, 12),
  (⟨"LinkHouseModel", "mergedSection", "(I)V"⟩, prog_14_method_134_code, 5, none, 1, 12),
  (⟨"LinkHouseModel", "mergedLocals", "()V"⟩, prog_14_method_137_code, 7, none, 0, 12),
  (⟨"LinkHouseModel", "mergedSymbol", "(IIIJJ)V"⟩, prog_14_method_136_code, 9, none, 5, 12),
  (⟨"LinkHouseModel", "mergedNames", "()V"⟩, prog_14_method_138_code, 5, none, 0, 12),
  (⟨"LinkHouseModel", "mergedDefinition", "(III)V"⟩, prog_14_method_139_code, 6, none, 3, 12),
  (⟨"LinkHouseModel", "pack", "()I"⟩, prog_14_method_146_code, 12, (some .int), 0, 12),
  (⟨"LinkHouseModel", "findObjects", "()V"⟩, prog_14_method_141_code, 3, none, 0, 12),
  (⟨"LinkHouseModel", "isDefining", "(II)Z"⟩, prog_14_method_142_code, 3, (some .boolean), 2, 12)]
def pg_mn22 : List (MethodName × ByteArray × Nat × Option FieldType × Nat × Nat) := [
  (⟨"LinkHouseModel", "ahead", "(II)V"⟩, prog_14_method_144_code, 4, none, 2, 12),
  (⟨"LinkHouseModel", "digits", "(II)V"⟩, prog_14_method_143_code, 5, none, 2, 12),
  (⟨"LinkHouseModel", "highFirst", "(II)V"⟩, prog_14_method_145_code, 4, none, 2, 12),
  (⟨"LinkHouseModel", "list", "(II)I"⟩, prog_14_method_149_code, 7, (some .int), 2, 12),
  (⟨"LinkHouseModel", "sixteen", "(IJ)V"⟩, prog_14_method_147_code, 6, none, 2, 12),
  (⟨"LinkHouseModel", "letterOf", "(II)I"⟩, prog_14_method_148_code, 6, (some .int), 2, 12),
  (⟨"LinkHouseModel", "map", "()I"⟩, prog_14_method_152_code, 5, (some .int), 0, 12),
  (⟨"LinkHouseModel", "wide", "(I)I"⟩, prog_14_method_150_code, 1, (some .int), 1, 12),
  (⟨"LinkHouseModel", "sayNumber", "(II)V"⟩, prog_14_method_151_code, 3, none, 2, 12),
  (⟨"LinkHouseModel", "boot", "(Z)I"⟩, prog_14_method_157_code, 3, (some .int), 1, 12),
  (⟨"LinkHouseModel", "triedError", "()I"⟩, prog_14_method_156_code, 7, (some .int), 0, 12),
  (⟨"LinkHouseModel", "isExecutable", "()Z"⟩, prog_14_method_154_code, 2, (some .boolean), 0, 12),
  (⟨"LinkHouseModel", "triedNum", "(II)J"⟩, prog_14_method_153_code, 6, (some .long), 2, 12),
  (⟨"LinkHouseModel", "rowError", "(I)I"⟩, prog_14_method_155_code, 13, (some .int), 1, 12),
  (⟨"LinkHouseModel", "findMemoryNames", "()V"⟩, prog_14_method_158_code, 18, none, 0, 12),
  (⟨"LinkHouseModel", "memorySymbol", "(IJJ)V"⟩, prog_14_method_159_code, 10, none, 3, 12)]
def pg_mn23 : List (MethodName × ByteArray × Nat × Option FieldType × Nat × Nat) := [
  (⟨"LinkHouseModel", "near", "(J)J"⟩, prog_14_method_160_code, 6, (some .long), 1, 12),
  (⟨"LinkHouseModel", "rowOf", "(J)I"⟩, prog_14_method_161_code, 4, (some .int), 1, 12),
  (⟨"LinkHouseModel", "peek", "(J)I"⟩, prog_14_method_162_code, 6, (some .int), 1, 12),
  (⟨"LinkHouseModel", "flags", "(J)J"⟩, prog_14_method_163_code, 4, (some .long), 1, 12),
  (⟨"LinkHouseModel", "address", "()J"⟩, prog_14_method_164_code, 2, (some .long), 0, 12),
  (⟨"LinkHouseModel", "taken", "(II)Z"⟩, prog_14_method_165_code, 3, (some .boolean), 2, 12),
  (⟨"LinkHouseModel", "section", "(II)I"⟩, prog_14_method_166_code, 3, (some .int), 2, 12),
  (⟨"LinkHouseModel", "place", "(I)J"⟩, prog_14_method_167_code, 2, (some .long), 1, 12),
  (⟨"LinkHouseModel", "out", "(I)J"⟩, prog_14_method_168_code, 5, (some .long), 1, 12),
  (⟨"LinkHouseModel", "look", "(I)J"⟩, prog_14_method_169_code, 2, (some .long), 1, 12),
  (⟨"java/util/Arrays", "fill", "([IIII)V"⟩, prog_29_method_104_code, 5, none, 4, 17),
  (⟨"java/util/Arrays", "rangeCheck", "(III)V"⟩, prog_29_method_30_code, 3, none, 3, 17),
  (⟨"java/util/Arrays", "fill", "([JJ)V"⟩, prog_29_method_101_code, 5, none, 2, 17),
  (⟨"java/util/Arrays", "fill", "([BIIB)V"⟩, prog_29_method_110_code, 5, none, 4, 17),
  (⟨"LinkHouseLaw", "feed", "(LLinkHouse;IJ[J)I"⟩, method_3_code, 6, (some .int), 4, 16),
  (⟨"LinkHouseLaw", "add", "(LLinkHouse;[J)I"⟩, method_4_code, 3, (some .int), 2, 16)]
def pg_mn24 : List (MethodName × ByteArray × Nat × Option FieldType × Nat × Nat) := [
  (⟨"LinkHouseLaw", "drop", "(LLinkHouse;[J)I"⟩, method_5_code, 3, (some .int), 2, 16),
  (⟨"LinkHouseLaw", "give", "(LLinkHouse;J[J)I"⟩, method_6_code, 5, (some .int), 3, 16),
  (⟨"LinkHouseLaw", "wish", "(LLinkHouse;[J)I"⟩, method_7_code, 3, (some .int), 2, 16),
  (⟨"LinkHouseLaw", "named", "(LLinkHouse;[J)I"⟩, method_8_code, 3, (some .int), 2, 16),
  (⟨"LinkHouseLaw", "list", "(LLinkHouse;II[J)I"⟩, method_9_code, 5, (some .int), 4, 16),
  (⟨"LinkHouseLaw", "sum", "(LLinkHouse;III[J)I"⟩, method_10_code, 6, (some .int), 5, 16),
  (⟨"LinkHouseLaw", "map", "(LLinkHouse;[J)I"⟩, method_11_code, 3, (some .int), 2, 16),
  (⟨"LinkHouseLaw", "address", "(LLinkHouse;[J)I"⟩, method_12_code, 3, (some .int), 2, 16),
  (⟨"LinkHouseLaw", "taken", "(LLinkHouse;II[J)I"⟩, method_13_code, 5, (some .int), 4, 16),
  (⟨"LinkHouseLaw", "cause", "(LLinkHouse;II[J)I"⟩, method_14_code, 5, (some .int), 4, 16),
  (⟨"LinkHouseLaw", "section", "(LLinkHouse;II[J)I"⟩, method_15_code, 5, (some .int), 4, 16),
  (⟨"LinkHouseLaw", "place", "(LLinkHouse;I[J)I"⟩, method_16_code, 4, (some .int), 3, 16),
  (⟨"LinkHouseLaw", "out", "(LLinkHouse;I[J)I"⟩, method_17_code, 4, (some .int), 3, 16),
  (⟨"LinkHouseLaw", "look", "(LLinkHouse;I[J)I"⟩, method_18_code, 4, (some .int), 3, 16),
  (⟨"LinkHouseLaw", "law", "([I)Z"⟩, code, 8, (some .boolean), 1, 16)]
def pg_mm : List (List (MethodName × ByteArray × Nat × Option FieldType × Nat × Nat)) := [pg_mn0, pg_mn1, pg_mn2, pg_mn3, pg_mn4, pg_mn5, pg_mn6, pg_mn7, pg_mn8, pg_mn9, pg_mn10, pg_mn11, pg_mn12, pg_mn13, pg_mn14, pg_mn15, pg_mn16, pg_mn17, pg_mn18, pg_mn19, pg_mn20, pg_mn21, pg_mn22, pg_mn23, pg_mn24]
def pg_mx (mi : Nat) : MethodName × ByteArray × Nat × Option FieldType × Nat × Nat := (pg_mm.getD (mi / 16) []).getD (mi % 16) (⟨"", "", ""⟩, ⟨#[]⟩, 0, none, 0, 0)
def pg_mn (mi : Nat) : MethodName := (pg_mx mi).1
def pg_by (mi : Nat) : ByteArray := (pg_mx mi).2.1
def pg_ml (mi : Nat) : Nat := (pg_mx mi).2.2.1
def pg_rt (mi : Nat) : Option FieldType := (pg_mx mi).2.2.2.1
def pg_np (mi : Nat) : Nat := (pg_mx mi).2.2.2.2.1
def pg_oc (mi : Nat) : Nat := (pg_mx mi).2.2.2.2.2
abbrev m_H_init : Nat := 0
abbrev m_H_link : Nat := 1
abbrev m_H_runLink : Nat := 2
abbrev m_H_up : Nat := 3
abbrev m_H_siteWidth : Nat := 4
abbrev m_H_merge : Nat := 5
abbrev m_H_publishDraft : Nat := 6
abbrev m_H_forget : Nat := 7
abbrev m_H_pack : Nat := 8
abbrev m_H_near : Nat := 9
abbrev m_H_above : Nat := 10
abbrev m_H_boot : Nat := 11
abbrev m_H_peek : Nat := 12
abbrev m_H_flags : Nat := 13
abbrev m_H_feed : Nat := 14
abbrev m_H_add : Nat := 15
abbrev m_H_readFile : Nat := 16
abbrev m_H_readArchive : Nat := 17
abbrev m_H_memberSize : Nat := 18
abbrev m_H_isPower : Nat := 19
abbrev m_H_clearFile : Nat := 20
abbrev m_H_drop : Nat := 21
abbrev m_H_give : Nat := 22
abbrev m_H_readTapeName : Nat := 23
abbrev m_H_wish : Nat := 24
abbrev m_H_named : Nat := 25
abbrev m_H_list : Nat := 26
abbrev m_H_objectAt : Nat := 27
abbrev m_H_memberAt : Nat := 28
abbrev m_H_sum : Nat := 29
abbrev m_H_map : Nat := 30
abbrev m_H_address : Nat := 31
abbrev m_H_taken : Nat := 32
abbrev m_H_cause : Nat := 33
abbrev m_H_section : Nat := 34
abbrev m_H_place : Nat := 35
abbrev m_H_out : Nat := 36
abbrev m_H_look : Nat := 37
abbrev m_H_lookAtLink : Nat := 38
abbrev m_Filler_init : Nat := 39
abbrev m_Filler_write : Nat := 40
abbrev m_Filler_writeHead : Nat := 41
abbrev m_Filler_writeRow : Nat := 42
abbrev m_Filler_spotOf : Nat := 43
abbrev m_Filler_fillSites : Nat := 44
abbrev m_Filler_fillSite : Nat := 45
abbrev m_Filler_fillShort : Nat := 46
abbrev m_Filler_slotAddress : Nat := 47
abbrev m_Filler_sumFor : Nat := 48
abbrev m_Layout_init : Nat := 49
abbrev m_Layout_lay : Nat := 50
abbrev m_Layout_gather : Nat := 51
abbrev m_Layout_findSlots : Nat := 52
abbrev m_Layout_findSlot : Nat := 53
abbrev m_Layout_slotOf : Nat := 54
abbrev m_Layout_slotKey : Nat := 55
abbrev m_Layout_findSegments : Nat := 56
abbrev m_Layout_partAt : Nat := 57
abbrev m_Layout_segmentOf : Nat := 58
abbrev m_Layout_isLaidCommon : Nat := 59
abbrev m_Layout_layText : Nat := 60
abbrev m_Layout_countSegments : Nat := 61
abbrev m_Layout_layData : Nat := 62
abbrev m_Layout_layGroup : Nat := 63
abbrev m_Layout_layTemplate : Nat := 64
abbrev m_Layout_firstOf : Nat := 65
abbrev m_Layout_addressOf : Nat := 66
abbrev m_Layout_ownAddress : Nat := 67
abbrev m_Layout_isTooLarge : Nat := 68
abbrev m_Layout_slotValue : Nat := 69
abbrev m_Layout_symbolAddress : Nat := 70
abbrev m_Link_init : Nat := 71
abbrev m_Link_resolve : Nat := 72
abbrev m_Link_begin : Nat := 73
abbrev m_Link_define : Nat := 74
abbrev m_Link_takeObject : Nat := 75
abbrev m_Link_openParts : Nat := 76
abbrev m_Link_part : Nat := 77
abbrev m_Link_enterNames : Nat := 78
abbrev m_Link_dropGroups : Nat := 79
abbrev m_Link_nameOf : Nat := 80
abbrev m_Link_dropParts : Nat := 81
abbrev m_Link_defineNames : Nat := 82
abbrev m_Link_settle : Nat := 83
abbrev m_Link_takeMembers : Nat := 84
abbrev m_Link_firstWanted : Nat := 85
abbrev m_Link_isWanted : Nat := 86
abbrev m_Link_defineOwn : Nat := 87
abbrev m_Link_isNameLeft : Nat := 88
abbrev m_Link_keepReached : Nat := 89
abbrev m_Link_definedAt : Nat := 90
abbrev m_Link_reachName : Nat := 91
abbrev m_Link_reachPart : Nat := 92
abbrev m_Link_reachFrom : Nat := 93
abbrev m_Link_object : Nat := 94
abbrev m_Link_reachSymbol : Nat := 95
abbrev m_Link_partOf : Nat := 96
abbrev m_Link_stayingTarget : Nat := 97
abbrev m_Link_isShort : Nat := 98
abbrev m_Link_countStaying : Nat := 99
abbrev m_Memory_init : Nat := 100
abbrev m_Memory_rowAt : Nat := 101
abbrev m_Memory_nearest : Nat := 102
abbrev m_Memory_valueOf : Nat := 103
abbrev m_Memory_isName : Nat := 104
abbrev m_Memory_nameStart : Nat := 105
abbrev m_Memory_errorOf : Nat := 106
abbrev m_Memory_rowError : Nat := 107
abbrev m_Memory_load : Nat := 108
abbrev m_Memory_findNames : Nat := 109
abbrev m_Memory_byteAt : Nat := 110
abbrev m_Memory_flagsAt : Nat := 111
abbrev m_Name_init : Nat := 112
abbrev m_Name_setText : Nat := 113
abbrev m_Name_wipe : Nat := 114
abbrev m_Name_append : Nat := 115
abbrev m_Name_renew : Nat := 116
abbrev m_Name_read : Nat := 117
abbrev m_Name_isMissedOrWished : Nat := 118
abbrev m_Name_writeTo : Nat := 119
abbrev m_Name_isDefinedByInput : Nat := 120
abbrev m_Names_init : Nat := 121
abbrev m_Names_at : Nat := 122
abbrev m_Names_enter : Nat := 123
abbrev m_Names_find : Nat := 124
abbrev m_ObjectFile_init : Nat := 125
abbrev m_ObjectFile_groupOf : Nat := 126
abbrev m_ObjectFile_lengthOf : Nat := 127
abbrev m_ObjectFile_num : Nat := 128
abbrev m_ObjectFile_alignOf : Nat := 129
abbrev m_ObjectFile_placeOf : Nat := 130
abbrev m_ObjectFile_isStrings : Nat := 131
abbrev m_ObjectFile_bindOf : Nat := 132
abbrev m_ObjectFile_nameStart : Nat := 133
abbrev m_ObjectFile_typeOf : Nat := 134
abbrev m_ObjectFile_infoOf : Nat := 135
abbrev m_ObjectFile_whereOf : Nat := 136
abbrev m_ObjectFile_isDefining : Nat := 137
abbrev m_ObjectFile_targetOf : Nat := 138
abbrev m_ObjectFile_sitesOf : Nat := 139
abbrev m_ObjectFile_valueOf : Nat := 140
abbrev m_ObjectFile_kindOf : Nat := 141
abbrev m_ObjectFile_flagsOf : Nat := 142
abbrev m_ObjectFile_open : Nat := 143
abbrev m_ObjectFile_readError : Nat := 144
abbrev m_ObjectFile_isHeadGood : Nat := 145
abbrev m_ObjectFile_areRowsGood : Nat := 146
abbrev m_ObjectFile_holds : Nat := 147
abbrev m_ObjectFile_sectionsError : Nat := 148
abbrev m_ObjectFile_findGroup : Nat := 149
abbrev m_ObjectFile_findSymbols : Nat := 150
abbrev m_ObjectFile_linkOf : Nat := 151
abbrev m_ObjectFile_isSymbolGood : Nat := 152
abbrev m_ObjectFile_isNameGood : Nat := 153
abbrev m_ObjectFile_areSitesGood : Nat := 154
abbrev m_ObjectFile_isSiteGood : Nat := 155
abbrev m_ObjectFile_areGroupsGood : Nat := 156
abbrev m_ObjectFile_findStrings : Nat := 157
abbrev m_ObjectFile_isStringRow : Nat := 158
abbrev m_Part_init : Nat := 159
abbrev m_Pool_init : Nat := 160
abbrev m_Pool_clear : Nat := 161
abbrev m_Pool_collect : Nat := 162
abbrev m_Pool_admit : Nat := 163
abbrev m_Pool_isEnd : Nat := 164
abbrev m_Pool_addressIn : Nat := 165
abbrev m_Row_init : Nat := 166
abbrev m_Row_at : Nat := 167
abbrev m_Row_clear : Nat := 168
abbrev m_Row_putAll : Nat := 169
abbrev m_Row_put : Nat := 170
abbrev m_Row_fillTo : Nat := 171
abbrev m_Row_cover : Nat := 172
abbrev m_Row_set : Nat := 173
abbrev m_Row_copy : Nat := 174
abbrev m_Row_putDecimal : Nat := 175
abbrev m_Row_putHighestFirst : Nat := 176
abbrev m_Row_num : Nat := 177
abbrev m_Row_nameLength : Nat := 178
abbrev m_Row_begins : Nat := 179
abbrev m_Row_holds : Nat := 180
abbrev m_Row_putHex : Nat := 181
abbrev m_Scribe_init : Nat := 182
abbrev m_Scribe_writeMerged : Nat := 183
abbrev m_Scribe_numberParts : Nat := 184
abbrev m_Scribe_numberSymbols : Nat := 185
abbrev m_Scribe_listName : Nat := 186
abbrev m_Scribe_mergeParts : Nat := 187
abbrev m_Scribe_nextPlace : Nat := 188
abbrev m_Scribe_putRow : Nat := 189
abbrev m_Scribe_endRow : Nat := 190
abbrev m_Scribe_mergeSites : Nat := 191
abbrev m_Scribe_freshSymbol : Nat := 192
abbrev m_Scribe_mergeSymbols : Nat := 193
abbrev m_Scribe_mergeLocal : Nat := 194
abbrev m_Scribe_putSymbol : Nat := 195
abbrev m_Scribe_mergeName : Nat := 196
abbrev m_Scribe_mergeNames : Nat := 197
abbrev m_Scribe_writePacked : Nat := 198
abbrev m_Scribe_isObject : Nat := 199
abbrev m_Scribe_writeIndex : Nat := 200
abbrev m_Scribe_writeAhead : Nat := 201
abbrev m_Scribe_writeObjects : Nat := 202
abbrev m_Scribe_writeNamed : Nat := 203
abbrev m_Scribe_rowOf : Nat := 204
abbrev m_Scribe_writeSegmentRows : Nat := 205
abbrev m_Scribe_writeList : Nat := 206
abbrev m_Scribe_letterOf : Nat := 207
abbrev m_Scribe_writeMap : Nat := 208
abbrev m_M_init : Nat := 209
abbrev m_M_thrown : Nat := 210
abbrev m_M_feed : Nat := 211
abbrev m_M_throwing : Nat := 212
abbrev m_M_add : Nat := 213
abbrev m_M_fileError : Nat := 214
abbrev m_M_num : Nat := 215
abbrev m_M_objectError : Nat := 216
abbrev m_M_isHeader : Nat := 217
abbrev m_M_sections : Nat := 218
abbrev m_M_lies : Nat := 219
abbrev m_M_type : Nat := 220
abbrev m_M_row : Nat := 221
abbrev m_M_sectionError : Nat := 222
abbrev m_M_beginning : Nat := 223
abbrev m_M_size : Nat := 224
abbrev m_M_isKept : Nat := 225
abbrev m_M_flagsOf : Nat := 226
abbrev m_M_align : Nat := 227
abbrev m_M_isPower : Nat := 228
abbrev m_M_symbolsError : Nat := 229
abbrev m_M_symbols : Nat := 230
abbrev m_M_linkOf : Nat := 231
abbrev m_M_symbolMany : Nat := 232
abbrev m_M_isSymbol : Nat := 233
abbrev m_M_where : Nat := 234
abbrev m_M_symbol : Nat := 235
abbrev m_M_bind : Nat := 236
abbrev m_M_isName : Nat := 237
abbrev m_M_value : Nat := 238
abbrev m_M_symbolSize : Nat := 239
abbrev m_M_sitesError : Nat := 240
abbrev m_M_isSites : Nat := 241
abbrev m_M_info : Nat := 242
abbrev m_M_siteMany : Nat := 243
abbrev m_M_isSite : Nat := 244
abbrev m_M_site : Nat := 245
abbrev m_M_width : Nat := 246
abbrev m_M_isSlotted : Nat := 247
abbrev m_M_groupsError : Nat := 248
abbrev m_M_isGroup : Nat := 249
abbrev m_M_isGroupRight : Nat := 250
abbrev m_M_groupNumber : Nat := 251
abbrev m_M_isMembers : Nat := 252
abbrev m_M_drop : Nat := 253
abbrev m_M_give : Nat := 254
abbrev m_M_isTapeName : Nat := 255
abbrev m_M_toldAt : Nat := 256
abbrev m_M_wish : Nat := 257
abbrev m_M_forget : Nat := 258
abbrev m_M_link : Nat := 259
abbrev m_M_tellNames : Nat := 260
abbrev m_M_entered : Nat := 261
abbrev m_M_find : Nat := 262
abbrev m_M_takeAll : Nat := 263
abbrev m_M_takeFrom : Nat := 264
abbrev m_M_helps : Nat := 265
abbrev m_M_nameOf : Nat := 266
abbrev m_M_nameAt : Nat := 267
abbrev m_M_nameEnd : Nat := 268
abbrev m_M_take : Nat := 269
abbrev m_M_dropGroups : Nat := 270
abbrev m_M_object : Nat := 271
abbrev m_M_isAgain : Nat := 272
abbrev m_M_enter : Nat := 273
abbrev m_M_come : Nat := 274
abbrev m_M_strengthOf : Nat := 275
abbrev m_M_whereNow : Nat := 276
abbrev m_M_say : Nat := 277
abbrev m_M_ownNames : Nat := 278
abbrev m_M_look2 : Nat := 279
abbrev m_M_start : Nat := 280
abbrev m_M_reach : Nat := 281
abbrev m_M_reachName : Nat := 282
abbrev m_M_isGiven : Nat := 283
abbrev m_M_reachSection : Nat := 284
abbrev m_M_reachSites : Nat := 285
abbrev m_M_lay : Nat := 286
abbrev m_M_stays : Nat := 287
abbrev m_M_group : Nat := 288
abbrev m_M_findPool : Nat := 289
abbrev m_M_isStrings : Nat := 290
abbrev m_M_nodeOf : Nat := 291
abbrev m_M_childOf : Nat := 292
abbrev m_M_toPool : Nat := 293
abbrev m_M_findSlots : Nat := 294
abbrev m_M_isShort : Nat := 295
abbrev m_M_shortKind : Nat := 296
abbrev m_M_isInside : Nat := 297
abbrev m_M_isSectionNow : Nat := 298
abbrev m_M_slotOf : Nat := 299
abbrev m_M_layout : Nat := 300
abbrev m_M_findSegments : Nat := 301
abbrev m_M_segmentOf : Nat := 302
abbrev m_M_isCommon : Nat := 303
abbrev m_M_isThreaded : Nat := 304
abbrev m_M_placeSegment : Nat := 305
abbrev m_M_up : Nat := 306
abbrev m_M_placeGroup : Nat := 307
abbrev m_M_placeStrings : Nat := 308
abbrev m_M_byteAddress : Nat := 309
abbrev m_M_placeCommons : Nat := 310
abbrev m_M_findTemplate : Nat := 311
abbrev m_M_ownAddress : Nat := 312
abbrev m_M_own : Nat := 313
abbrev m_M_sites : Nat := 314
abbrev m_M_one : Nat := 315
abbrev m_M_siteValue : Nat := 316
abbrev m_M_symbolAddress : Nat := 317
abbrev m_M_siteAddress : Nat := 318
abbrev m_M_isOfStrings : Nat := 319
abbrev m_M_fillSite : Nat := 320
abbrev m_M_put : Nat := 321
abbrev m_M_runsOver : Nat := 322
abbrev m_M_write : Nat := 323
abbrev m_M_keepLink : Nat := 324
abbrev m_M_named : Nat := 325
abbrev m_M_wider : Nat := 326
abbrev m_M_numberOf : Nat := 327
abbrev m_M_namedSegment : Nat := 328
abbrev m_M_cause : Nat := 329
abbrev m_M_sum : Nat := 330
abbrev m_M_merge : Nat := 331
abbrev m_M_merges : Nat := 332
abbrev m_M_countParts : Nat := 333
abbrev m_M_part : Nat := 334
abbrev m_M_countSymbols : Nat := 335
abbrev m_M_numberName : Nat := 336
abbrev m_M_mergedRow : Nat := 337
abbrev m_M_placeOf : Nat := 338
abbrev m_M_partSize : Nat := 339
abbrev m_M_isPart : Nat := 340
abbrev m_M_textMany : Nat := 341
abbrev m_M_mergedSites : Nat := 342
abbrev m_M_mergedRows : Nat := 343
abbrev m_M_mergedSection : Nat := 344
abbrev m_M_mergedLocals : Nat := 345
abbrev m_M_mergedSymbol : Nat := 346
abbrev m_M_mergedNames : Nat := 347
abbrev m_M_mergedDefinition : Nat := 348
abbrev m_M_pack : Nat := 349
abbrev m_M_findObjects : Nat := 350
abbrev m_M_isDefining : Nat := 351
abbrev m_M_ahead : Nat := 352
abbrev m_M_digits : Nat := 353
abbrev m_M_highFirst : Nat := 354
abbrev m_M_list : Nat := 355
abbrev m_M_sixteen : Nat := 356
abbrev m_M_letterOf : Nat := 357
abbrev m_M_map : Nat := 358
abbrev m_M_wide : Nat := 359
abbrev m_M_sayNumber : Nat := 360
abbrev m_M_boot : Nat := 361
abbrev m_M_triedError : Nat := 362
abbrev m_M_isExecutable : Nat := 363
abbrev m_M_triedNum : Nat := 364
abbrev m_M_rowError : Nat := 365
abbrev m_M_findMemoryNames : Nat := 366
abbrev m_M_memorySymbol : Nat := 367
abbrev m_M_near : Nat := 368
abbrev m_M_rowOf : Nat := 369
abbrev m_M_peek : Nat := 370
abbrev m_M_flags : Nat := 371
abbrev m_M_address : Nat := 372
abbrev m_M_taken : Nat := 373
abbrev m_M_section : Nat := 374
abbrev m_M_place : Nat := 375
abbrev m_M_out : Nat := 376
abbrev m_M_look : Nat := 377
abbrev m_Arrays_fill : Nat := 378
abbrev m_Arrays_rangeCheck : Nat := 379
abbrev m_Arrays_fill_2 : Nat := 380
abbrev m_Arrays_fill_3 : Nat := 381
abbrev m_L_feed : Nat := 382
abbrev m_L_add : Nat := 383
abbrev m_L_drop : Nat := 384
abbrev m_L_give : Nat := 385
abbrev m_L_wish : Nat := 386
abbrev m_L_named : Nat := 387
abbrev m_L_list : Nat := 388
abbrev m_L_sum : Nat := 389
abbrev m_L_map : Nat := 390
abbrev m_L_address : Nat := 391
abbrev m_L_taken : Nat := 392
abbrev m_L_cause : Nat := 393
abbrev m_L_section : Nat := 394
abbrev m_L_place : Nat := 395
abbrev m_L_out : Nat := 396
abbrev m_L_look : Nat := 397
abbrev m_L_law : Nat := 398
set_option maxRecDepth 1000000 in
theorem pg_w0 : pg_tb 35 = some (.code (pg_mn 0) (pg_by 0) (pg_ml 0) (pg_rt 0)) := by rfl
set_option maxRecDepth 1000000 in
theorem pg_w1 : pg_tb 799 = some (.code (pg_mn 1) (pg_by 1) (pg_ml 1) (pg_rt 1)) := by rfl
set_option maxRecDepth 1000000 in
theorem pg_w2 : pg_tb 803 = some (.code (pg_mn 2) (pg_by 2) (pg_ml 2) (pg_rt 2)) := by rfl
set_option maxRecDepth 1000000 in
theorem pg_w3 : pg_tb 1388 = some (.code (pg_mn 3) (pg_by 3) (pg_ml 3) (pg_rt 3)) := by rfl
set_option maxRecDepth 1000000 in
theorem pg_w4 : pg_tb 1518 = some (.code (pg_mn 4) (pg_by 4) (pg_ml 4) (pg_rt 4)) := by rfl
set_option maxRecDepth 1000000 in
theorem pg_w5 : pg_tb 1571 = some (.code (pg_mn 5) (pg_by 5) (pg_ml 5) (pg_rt 5)) := by rfl
set_option maxRecDepth 1000000 in
theorem pg_w6 : pg_tb 1672 = some (.code (pg_mn 6) (pg_by 6) (pg_ml 6) (pg_rt 6)) := by rfl
set_option maxRecDepth 1000000 in
theorem pg_w7 : pg_tb 1676 = some (.code (pg_mn 7) (pg_by 7) (pg_ml 7) (pg_rt 7)) := by rfl
set_option maxRecDepth 1000000 in
theorem pg_w8 : pg_tb 1680 = some (.code (pg_mn 8) (pg_by 8) (pg_ml 8) (pg_rt 8)) := by rfl
set_option maxRecDepth 1000000 in
theorem pg_w9 : pg_tb 1721 = some (.code (pg_mn 9) (pg_by 9) (pg_ml 9) (pg_rt 9)) := by rfl
set_option maxRecDepth 1000000 in
theorem pg_w10 : pg_tb 1728 = some (.code (pg_mn 10) (pg_by 10) (pg_ml 10) (pg_rt 10)) := by rfl
set_option maxRecDepth 1000000 in
theorem pg_w11 : pg_tb 1762 = some (.code (pg_mn 11) (pg_by 11) (pg_ml 11) (pg_rt 11)) := by rfl
set_option maxRecDepth 1000000 in
theorem pg_w12 : pg_tb 1802 = some (.code (pg_mn 12) (pg_by 12) (pg_ml 12) (pg_rt 12)) := by rfl
set_option maxRecDepth 1000000 in
theorem pg_w13 : pg_tb 1811 = some (.code (pg_mn 13) (pg_by 13) (pg_ml 13) (pg_rt 13)) := by rfl
set_option maxRecDepth 1000000 in
theorem pg_w14 : pg_tb 1825 = some (.code (pg_mn 14) (pg_by 14) (pg_ml 14) (pg_rt 14)) := by rfl
set_option maxRecDepth 1000000 in
theorem pg_w15 : pg_tb 1852 = some (.code (pg_mn 15) (pg_by 15) (pg_ml 15) (pg_rt 15)) := by rfl
set_option maxRecDepth 1000000 in
theorem pg_w16 : pg_tb 1857 = some (.code (pg_mn 16) (pg_by 16) (pg_ml 16) (pg_rt 16)) := by rfl
set_option maxRecDepth 1000000 in
theorem pg_w17 : pg_tb 1863 = some (.code (pg_mn 17) (pg_by 17) (pg_ml 17) (pg_rt 17)) := by rfl
set_option maxRecDepth 1000000 in
theorem pg_w18 : pg_tb 1867 = some (.code (pg_mn 18) (pg_by 18) (pg_ml 18) (pg_rt 18)) := by rfl
set_option maxRecDepth 1000000 in
theorem pg_w19 : pg_tb 1912 = some (.code (pg_mn 19) (pg_by 19) (pg_ml 19) (pg_rt 19)) := by rfl
set_option maxRecDepth 1000000 in
theorem pg_w20 : pg_tb 1968 = some (.code (pg_mn 20) (pg_by 20) (pg_ml 20) (pg_rt 20)) := by rfl
set_option maxRecDepth 1000000 in
theorem pg_w21 : pg_tb 1975 = some (.code (pg_mn 21) (pg_by 21) (pg_ml 21) (pg_rt 21)) := by rfl
set_option maxRecDepth 1000000 in
theorem pg_w22 : pg_tb 1983 = some (.code (pg_mn 22) (pg_by 22) (pg_ml 22) (pg_rt 22)) := by rfl
set_option maxRecDepth 1000000 in
theorem pg_w23 : pg_tb 1987 = some (.code (pg_mn 23) (pg_by 23) (pg_ml 23) (pg_rt 23)) := by rfl
set_option maxRecDepth 1000000 in
theorem pg_w24 : pg_tb 2000 = some (.code (pg_mn 24) (pg_by 24) (pg_ml 24) (pg_rt 24)) := by rfl
set_option maxRecDepth 1000000 in
theorem pg_w25 : pg_tb 2008 = some (.code (pg_mn 25) (pg_by 25) (pg_ml 25) (pg_rt 25)) := by rfl
set_option maxRecDepth 1000000 in
theorem pg_w26 : pg_tb 2035 = some (.code (pg_mn 26) (pg_by 26) (pg_ml 26) (pg_rt 26)) := by rfl
set_option maxRecDepth 1000000 in
theorem pg_w27 : pg_tb 2039 = some (.code (pg_mn 27) (pg_by 27) (pg_ml 27) (pg_rt 27)) := by rfl
set_option maxRecDepth 1000000 in
theorem pg_w28 : pg_tb 2043 = some (.code (pg_mn 28) (pg_by 28) (pg_ml 28) (pg_rt 28)) := by rfl
set_option maxRecDepth 1000000 in
theorem pg_w29 : pg_tb 2083 = some (.code (pg_mn 29) (pg_by 29) (pg_ml 29) (pg_rt 29)) := by rfl
set_option maxRecDepth 1000000 in
theorem pg_w30 : pg_tb 2093 = some (.code (pg_mn 30) (pg_by 30) (pg_ml 30) (pg_rt 30)) := by rfl
set_option maxRecDepth 1000000 in
theorem pg_w31 : pg_tb 2106 = some (.code (pg_mn 31) (pg_by 31) (pg_ml 31) (pg_rt 31)) := by rfl
set_option maxRecDepth 1000000 in
theorem pg_w32 : pg_tb 2113 = some (.code (pg_mn 32) (pg_by 32) (pg_ml 32) (pg_rt 32)) := by rfl
set_option maxRecDepth 1000000 in
theorem pg_w33 : pg_tb 2121 = some (.code (pg_mn 33) (pg_by 33) (pg_ml 33) (pg_rt 33)) := by rfl
set_option maxRecDepth 1000000 in
theorem pg_w34 : pg_tb 2129 = some (.code (pg_mn 34) (pg_by 34) (pg_ml 34) (pg_rt 34)) := by rfl
set_option maxRecDepth 1000000 in
theorem pg_w35 : pg_tb 2138 = some (.code (pg_mn 35) (pg_by 35) (pg_ml 35) (pg_rt 35)) := by rfl
set_option maxRecDepth 1000000 in
theorem pg_w36 : pg_tb 2146 = some (.code (pg_mn 36) (pg_by 36) (pg_ml 36) (pg_rt 36)) := by rfl
set_option maxRecDepth 1000000 in
theorem pg_w37 : pg_tb 2154 = some (.code (pg_mn 37) (pg_by 37) (pg_ml 37) (pg_rt 37)) := by rfl
set_option maxRecDepth 1000000 in
theorem pg_w38 : pg_tb 2159 = some (.code (pg_mn 38) (pg_by 38) (pg_ml 38) (pg_rt 38)) := by rfl
set_option maxRecDepth 1000000 in
theorem pg_w39 : pg_tb 629 = some (.code (pg_mn 39) (pg_by 39) (pg_ml 39) (pg_rt 39)) := by rfl
set_option maxRecDepth 1000000 in
theorem pg_w40 : pg_tb 1431 = some (.code (pg_mn 40) (pg_by 40) (pg_ml 40) (pg_rt 40)) := by rfl
set_option maxRecDepth 1000000 in
theorem pg_w41 : pg_tb 1435 = some (.code (pg_mn 41) (pg_by 41) (pg_ml 41) (pg_rt 41)) := by rfl
set_option maxRecDepth 1000000 in
theorem pg_w42 : pg_tb 1474 = some (.code (pg_mn 42) (pg_by 42) (pg_ml 42) (pg_rt 42)) := by rfl
set_option maxRecDepth 1000000 in
theorem pg_w43 : pg_tb 1479 = some (.code (pg_mn 43) (pg_by 43) (pg_ml 43) (pg_rt 43)) := by rfl
set_option maxRecDepth 1000000 in
theorem pg_w44 : pg_tb 1506 = some (.code (pg_mn 44) (pg_by 44) (pg_ml 44) (pg_rt 44)) := by rfl
set_option maxRecDepth 1000000 in
theorem pg_w45 : pg_tb 1514 = some (.code (pg_mn 45) (pg_by 45) (pg_ml 45) (pg_rt 45)) := by rfl
set_option maxRecDepth 1000000 in
theorem pg_w46 : pg_tb 1532 = some (.code (pg_mn 46) (pg_by 46) (pg_ml 46) (pg_rt 46)) := by rfl
set_option maxRecDepth 1000000 in
theorem pg_w47 : pg_tb 1543 = some (.code (pg_mn 47) (pg_by 47) (pg_ml 47) (pg_rt 47)) := by rfl
set_option maxRecDepth 1000000 in
theorem pg_w48 : pg_tb 1549 = some (.code (pg_mn 48) (pg_by 48) (pg_ml 48) (pg_rt 48)) := by rfl
set_option maxRecDepth 1000000 in
theorem pg_w49 : pg_tb 542 = some (.code (pg_mn 49) (pg_by 49) (pg_ml 49) (pg_rt 49)) := by rfl
set_option maxRecDepth 1000000 in
theorem pg_w50 : pg_tb 1011 = some (.code (pg_mn 50) (pg_by 50) (pg_ml 50) (pg_rt 50)) := by rfl
set_option maxRecDepth 1000000 in
theorem pg_w51 : pg_tb 1015 = some (.code (pg_mn 51) (pg_by 51) (pg_ml 51) (pg_rt 51)) := by rfl
set_option maxRecDepth 1000000 in
theorem pg_w52 : pg_tb 1039 = some (.code (pg_mn 52) (pg_by 52) (pg_ml 52) (pg_rt 52)) := by rfl
set_option maxRecDepth 1000000 in
theorem pg_w53 : pg_tb 1338 = some (.code (pg_mn 53) (pg_by 53) (pg_ml 53) (pg_rt 53)) := by rfl
set_option maxRecDepth 1000000 in
theorem pg_w54 : pg_tb 1349 = some (.code (pg_mn 54) (pg_by 54) (pg_ml 54) (pg_rt 54)) := by rfl
set_option maxRecDepth 1000000 in
theorem pg_w55 : pg_tb 1354 = some (.code (pg_mn 55) (pg_by 55) (pg_ml 55) (pg_rt 55)) := by rfl
set_option maxRecDepth 1000000 in
theorem pg_w56 : pg_tb 1358 = some (.code (pg_mn 56) (pg_by 56) (pg_ml 56) (pg_rt 56)) := by rfl
set_option maxRecDepth 1000000 in
theorem pg_w57 : pg_tb 1365 = some (.code (pg_mn 57) (pg_by 57) (pg_ml 57) (pg_rt 57)) := by rfl
set_option maxRecDepth 1000000 in
theorem pg_w58 : pg_tb 1369 = some (.code (pg_mn 58) (pg_by 58) (pg_ml 58) (pg_rt 58)) := by rfl
set_option maxRecDepth 1000000 in
theorem pg_w59 : pg_tb 1375 = some (.code (pg_mn 59) (pg_by 59) (pg_ml 59) (pg_rt 59)) := by rfl
set_option maxRecDepth 1000000 in
theorem pg_w60 : pg_tb 1379 = some (.code (pg_mn 60) (pg_by 60) (pg_ml 60) (pg_rt 60)) := by rfl
set_option maxRecDepth 1000000 in
theorem pg_w61 : pg_tb 1383 = some (.code (pg_mn 61) (pg_by 61) (pg_ml 61) (pg_rt 61)) := by rfl
set_option maxRecDepth 1000000 in
theorem pg_w62 : pg_tb 1394 = some (.code (pg_mn 62) (pg_by 62) (pg_ml 62) (pg_rt 62)) := by rfl
set_option maxRecDepth 1000000 in
theorem pg_w63 : pg_tb 1398 = some (.code (pg_mn 63) (pg_by 63) (pg_ml 63) (pg_rt 63)) := by rfl
set_option maxRecDepth 1000000 in
theorem pg_w64 : pg_tb 1402 = some (.code (pg_mn 64) (pg_by 64) (pg_ml 64) (pg_rt 64)) := by rfl
set_option maxRecDepth 1000000 in
theorem pg_w65 : pg_tb 1406 = some (.code (pg_mn 65) (pg_by 65) (pg_ml 65) (pg_rt 65)) := by rfl
set_option maxRecDepth 1000000 in
theorem pg_w66 : pg_tb 1418 = some (.code (pg_mn 66) (pg_by 66) (pg_ml 66) (pg_rt 66)) := by rfl
set_option maxRecDepth 1000000 in
theorem pg_w67 : pg_tb 1422 = some (.code (pg_mn 67) (pg_by 67) (pg_ml 67) (pg_rt 67)) := by rfl
set_option maxRecDepth 1000000 in
theorem pg_w68 : pg_tb 1426 = some (.code (pg_mn 68) (pg_by 68) (pg_ml 68) (pg_rt 68)) := by rfl
set_option maxRecDepth 1000000 in
theorem pg_w69 : pg_tb 1489 = some (.code (pg_mn 69) (pg_by 69) (pg_ml 69) (pg_rt 69)) := by rfl
set_option maxRecDepth 1000000 in
theorem pg_w70 : pg_tb 1493 = some (.code (pg_mn 70) (pg_by 70) (pg_ml 70) (pg_rt 70)) := by rfl
set_option maxRecDepth 1000000 in
theorem pg_w71 : pg_tb 277 = some (.code (pg_mn 71) (pg_by 71) (pg_ml 71) (pg_rt 71)) := by rfl
set_option maxRecDepth 1000000 in
theorem pg_w72 : pg_tb 807 = some (.code (pg_mn 72) (pg_by 72) (pg_ml 72) (pg_rt 72)) := by rfl
set_option maxRecDepth 1000000 in
theorem pg_w73 : pg_tb 811 = some (.code (pg_mn 73) (pg_by 73) (pg_ml 73) (pg_rt 73)) := by rfl
set_option maxRecDepth 1000000 in
theorem pg_w74 : pg_tb 831 = some (.code (pg_mn 74) (pg_by 74) (pg_ml 74) (pg_rt 74)) := by rfl
set_option maxRecDepth 1000000 in
theorem pg_w75 : pg_tb 835 = some (.code (pg_mn 75) (pg_by 75) (pg_ml 75) (pg_rt 75)) := by rfl
set_option maxRecDepth 1000000 in
theorem pg_w76 : pg_tb 839 = some (.code (pg_mn 76) (pg_by 76) (pg_ml 76) (pg_rt 76)) := by rfl
set_option maxRecDepth 1000000 in
theorem pg_w77 : pg_tb 843 = some (.code (pg_mn 77) (pg_by 77) (pg_ml 77) (pg_rt 77)) := by rfl
set_option maxRecDepth 1000000 in
theorem pg_w78 : pg_tb 874 = some (.code (pg_mn 78) (pg_by 78) (pg_ml 78) (pg_rt 78)) := by rfl
set_option maxRecDepth 1000000 in
theorem pg_w79 : pg_tb 894 = some (.code (pg_mn 79) (pg_by 79) (pg_ml 79) (pg_rt 79)) := by rfl
set_option maxRecDepth 1000000 in
theorem pg_w80 : pg_tb 908 = some (.code (pg_mn 80) (pg_by 80) (pg_ml 80) (pg_rt 80)) := by rfl
set_option maxRecDepth 1000000 in
theorem pg_w81 : pg_tb 912 = some (.code (pg_mn 81) (pg_by 81) (pg_ml 81) (pg_rt 81)) := by rfl
set_option maxRecDepth 1000000 in
theorem pg_w82 : pg_tb 916 = some (.code (pg_mn 82) (pg_by 82) (pg_ml 82) (pg_rt 82)) := by rfl
set_option maxRecDepth 1000000 in
theorem pg_w83 : pg_tb 924 = some (.code (pg_mn 83) (pg_by 83) (pg_ml 83) (pg_rt 83)) := by rfl
set_option maxRecDepth 1000000 in
theorem pg_w84 : pg_tb 930 = some (.code (pg_mn 84) (pg_by 84) (pg_ml 84) (pg_rt 84)) := by rfl
set_option maxRecDepth 1000000 in
theorem pg_w85 : pg_tb 934 = some (.code (pg_mn 85) (pg_by 85) (pg_ml 85) (pg_rt 85)) := by rfl
set_option maxRecDepth 1000000 in
theorem pg_w86 : pg_tb 944 = some (.code (pg_mn 86) (pg_by 86) (pg_ml 86) (pg_rt 86)) := by rfl
set_option maxRecDepth 1000000 in
theorem pg_w87 : pg_tb 953 = some (.code (pg_mn 87) (pg_by 87) (pg_ml 87) (pg_rt 87)) := by rfl
set_option maxRecDepth 1000000 in
theorem pg_w88 : pg_tb 960 = some (.code (pg_mn 88) (pg_by 88) (pg_ml 88) (pg_rt 88)) := by rfl
set_option maxRecDepth 1000000 in
theorem pg_w89 : pg_tb 964 = some (.code (pg_mn 89) (pg_by 89) (pg_ml 89) (pg_rt 89)) := by rfl
set_option maxRecDepth 1000000 in
theorem pg_w90 : pg_tb 968 = some (.code (pg_mn 90) (pg_by 90) (pg_ml 90) (pg_rt 90)) := by rfl
set_option maxRecDepth 1000000 in
theorem pg_w91 : pg_tb 972 = some (.code (pg_mn 91) (pg_by 91) (pg_ml 91) (pg_rt 91)) := by rfl
set_option maxRecDepth 1000000 in
theorem pg_w92 : pg_tb 976 = some (.code (pg_mn 92) (pg_by 92) (pg_ml 92) (pg_rt 92)) := by rfl
set_option maxRecDepth 1000000 in
theorem pg_w93 : pg_tb 980 = some (.code (pg_mn 93) (pg_by 93) (pg_ml 93) (pg_rt 93)) := by rfl
set_option maxRecDepth 1000000 in
theorem pg_w94 : pg_tb 984 = some (.code (pg_mn 94) (pg_by 94) (pg_ml 94) (pg_rt 94)) := by rfl
set_option maxRecDepth 1000000 in
theorem pg_w95 : pg_tb 1002 = some (.code (pg_mn 95) (pg_by 95) (pg_ml 95) (pg_rt 95)) := by rfl
set_option maxRecDepth 1000000 in
theorem pg_w96 : pg_tb 1006 = some (.code (pg_mn 96) (pg_by 96) (pg_ml 96) (pg_rt 96)) := by rfl
set_option maxRecDepth 1000000 in
theorem pg_w97 : pg_tb 1332 = some (.code (pg_mn 97) (pg_by 97) (pg_ml 97) (pg_rt 97)) := by rfl
set_option maxRecDepth 1000000 in
theorem pg_w98 : pg_tb 1343 = some (.code (pg_mn 98) (pg_by 98) (pg_ml 98) (pg_rt 98)) := by rfl
set_option maxRecDepth 1000000 in
theorem pg_w99 : pg_tb 2163 = some (.code (pg_mn 99) (pg_by 99) (pg_ml 99) (pg_rt 99)) := by rfl
set_option maxRecDepth 1000000 in
theorem pg_w100 : pg_tb 692 = some (.code (pg_mn 100) (pg_by 100) (pg_ml 100) (pg_rt 100)) := by rfl
set_option maxRecDepth 1000000 in
theorem pg_w101 : pg_tb 1725 = some (.code (pg_mn 101) (pg_by 101) (pg_ml 101) (pg_rt 101)) := by rfl
set_option maxRecDepth 1000000 in
theorem pg_w102 : pg_tb 1733 = some (.code (pg_mn 102) (pg_by 102) (pg_ml 102) (pg_rt 102)) := by rfl
set_option maxRecDepth 1000000 in
theorem pg_w103 : pg_tb 1737 = some (.code (pg_mn 103) (pg_by 103) (pg_ml 103) (pg_rt 103)) := by rfl
set_option maxRecDepth 1000000 in
theorem pg_w104 : pg_tb 1746 = some (.code (pg_mn 104) (pg_by 104) (pg_ml 104) (pg_rt 104)) := by rfl
set_option maxRecDepth 1000000 in
theorem pg_w105 : pg_tb 1756 = some (.code (pg_mn 105) (pg_by 105) (pg_ml 105) (pg_rt 105)) := by rfl
set_option maxRecDepth 1000000 in
theorem pg_w106 : pg_tb 1766 = some (.code (pg_mn 106) (pg_by 106) (pg_ml 106) (pg_rt 106)) := by rfl
set_option maxRecDepth 1000000 in
theorem pg_w107 : pg_tb 1782 = some (.code (pg_mn 107) (pg_by 107) (pg_ml 107) (pg_rt 107)) := by rfl
set_option maxRecDepth 1000000 in
theorem pg_w108 : pg_tb 1788 = some (.code (pg_mn 108) (pg_by 108) (pg_ml 108) (pg_rt 108)) := by rfl
set_option maxRecDepth 1000000 in
theorem pg_w109 : pg_tb 1794 = some (.code (pg_mn 109) (pg_by 109) (pg_ml 109) (pg_rt 109)) := by rfl
set_option maxRecDepth 1000000 in
theorem pg_w110 : pg_tb 1806 = some (.code (pg_mn 110) (pg_by 110) (pg_ml 110) (pg_rt 110)) := by rfl
set_option maxRecDepth 1000000 in
theorem pg_w111 : pg_tb 1815 = some (.code (pg_mn 111) (pg_by 111) (pg_ml 111) (pg_rt 111)) := by rfl
set_option maxRecDepth 1000000 in
theorem pg_w112 : pg_tb 164 = some (.code (pg_mn 112) (pg_by 112) (pg_ml 112) (pg_rt 112)) := by rfl
set_option maxRecDepth 1000000 in
theorem pg_w113 : pg_tb 369 = some (.code (pg_mn 113) (pg_by 113) (pg_ml 113) (pg_rt 113)) := by rfl
set_option maxRecDepth 1000000 in
theorem pg_w114 : pg_tb 373 = some (.code (pg_mn 114) (pg_by 114) (pg_ml 114) (pg_rt 114)) := by rfl
set_option maxRecDepth 1000000 in
theorem pg_w115 : pg_tb 425 = some (.code (pg_mn 115) (pg_by 115) (pg_ml 115) (pg_rt 115)) := by rfl
set_option maxRecDepth 1000000 in
theorem pg_w116 : pg_tb 827 = some (.code (pg_mn 116) (pg_by 116) (pg_ml 116) (pg_rt 116)) := by rfl
set_option maxRecDepth 1000000 in
theorem pg_w117 : pg_tb 886 = some (.code (pg_mn 117) (pg_by 117) (pg_ml 117) (pg_rt 117)) := by rfl
set_option maxRecDepth 1000000 in
theorem pg_w118 : pg_tb 948 = some (.code (pg_mn 118) (pg_by 118) (pg_ml 118) (pg_rt 118)) := by rfl
set_option maxRecDepth 1000000 in
theorem pg_w119 : pg_tb 1566 = some (.code (pg_mn 119) (pg_by 119) (pg_ml 119) (pg_rt 119)) := by rfl
set_option maxRecDepth 1000000 in
theorem pg_w120 : pg_tb 1657 = some (.code (pg_mn 120) (pg_by 120) (pg_ml 120) (pg_rt 120)) := by rfl
set_option maxRecDepth 1000000 in
theorem pg_w121 : pg_tb 156 = some (.code (pg_mn 121) (pg_by 121) (pg_ml 121) (pg_rt 121)) := by rfl
set_option maxRecDepth 1000000 in
theorem pg_w122 : pg_tb 815 = some (.code (pg_mn 122) (pg_by 122) (pg_ml 122) (pg_rt 122)) := by rfl
set_option maxRecDepth 1000000 in
theorem pg_w123 : pg_tb 819 = some (.code (pg_mn 123) (pg_by 123) (pg_ml 123) (pg_rt 123)) := by rfl
set_option maxRecDepth 1000000 in
theorem pg_w124 : pg_tb 823 = some (.code (pg_mn 124) (pg_by 124) (pg_ml 124) (pg_rt 124)) := by rfl
set_option maxRecDepth 1000000 in
theorem pg_w125 : pg_tb 75 = some (.code (pg_mn 125) (pg_by 125) (pg_ml 125) (pg_rt 125)) := by rfl
set_option maxRecDepth 1000000 in
theorem pg_w126 : pg_tb 847 = some (.code (pg_mn 126) (pg_by 126) (pg_ml 126) (pg_rt 126)) := by rfl
set_option maxRecDepth 1000000 in
theorem pg_w127 : pg_tb 851 = some (.code (pg_mn 127) (pg_by 127) (pg_ml 127) (pg_rt 127)) := by rfl
set_option maxRecDepth 1000000 in
theorem pg_w128 : pg_tb 855 = some (.code (pg_mn 128) (pg_by 128) (pg_ml 128) (pg_rt 128)) := by rfl
set_option maxRecDepth 1000000 in
theorem pg_w129 : pg_tb 859 = some (.code (pg_mn 129) (pg_by 129) (pg_ml 129) (pg_rt 129)) := by rfl
set_option maxRecDepth 1000000 in
theorem pg_w130 : pg_tb 866 = some (.code (pg_mn 130) (pg_by 130) (pg_ml 130) (pg_rt 130)) := by rfl
set_option maxRecDepth 1000000 in
theorem pg_w131 : pg_tb 870 = some (.code (pg_mn 131) (pg_by 131) (pg_ml 131) (pg_rt 131)) := by rfl
set_option maxRecDepth 1000000 in
theorem pg_w132 : pg_tb 878 = some (.code (pg_mn 132) (pg_by 132) (pg_ml 132) (pg_rt 132)) := by rfl
set_option maxRecDepth 1000000 in
theorem pg_w133 : pg_tb 882 = some (.code (pg_mn 133) (pg_by 133) (pg_ml 133) (pg_rt 133)) := by rfl
set_option maxRecDepth 1000000 in
theorem pg_w134 : pg_tb 898 = some (.code (pg_mn 134) (pg_by 134) (pg_ml 134) (pg_rt 134)) := by rfl
set_option maxRecDepth 1000000 in
theorem pg_w135 : pg_tb 904 = some (.code (pg_mn 135) (pg_by 135) (pg_ml 135) (pg_rt 135)) := by rfl
set_option maxRecDepth 1000000 in
theorem pg_w136 : pg_tb 920 = some (.code (pg_mn 136) (pg_by 136) (pg_ml 136) (pg_rt 136)) := by rfl
set_option maxRecDepth 1000000 in
theorem pg_w137 : pg_tb 938 = some (.code (pg_mn 137) (pg_by 137) (pg_ml 137) (pg_rt 137)) := by rfl
set_option maxRecDepth 1000000 in
theorem pg_w138 : pg_tb 988 = some (.code (pg_mn 138) (pg_by 138) (pg_ml 138) (pg_rt 138)) := by rfl
set_option maxRecDepth 1000000 in
theorem pg_w139 : pg_tb 996 = some (.code (pg_mn 139) (pg_by 139) (pg_ml 139) (pg_rt 139)) := by rfl
set_option maxRecDepth 1000000 in
theorem pg_w140 : pg_tb 1498 = some (.code (pg_mn 140) (pg_by 140) (pg_ml 140) (pg_rt 140)) := by rfl
set_option maxRecDepth 1000000 in
theorem pg_w141 : pg_tb 1554 = some (.code (pg_mn 141) (pg_by 141) (pg_ml 141) (pg_rt 141)) := by rfl
set_option maxRecDepth 1000000 in
theorem pg_w142 : pg_tb 1606 = some (.code (pg_mn 142) (pg_by 142) (pg_ml 142) (pg_rt 142)) := by rfl
set_option maxRecDepth 1000000 in
theorem pg_w143 : pg_tb 1876 = some (.code (pg_mn 143) (pg_by 143) (pg_ml 143) (pg_rt 143)) := by rfl
set_option maxRecDepth 1000000 in
theorem pg_w144 : pg_tb 1880 = some (.code (pg_mn 144) (pg_by 144) (pg_ml 144) (pg_rt 144)) := by rfl
set_option maxRecDepth 1000000 in
theorem pg_w145 : pg_tb 1884 = some (.code (pg_mn 145) (pg_by 145) (pg_ml 145) (pg_rt 145)) := by rfl
set_option maxRecDepth 1000000 in
theorem pg_w146 : pg_tb 1891 = some (.code (pg_mn 146) (pg_by 146) (pg_ml 146) (pg_rt 146)) := by rfl
set_option maxRecDepth 1000000 in
theorem pg_w147 : pg_tb 1895 = some (.code (pg_mn 147) (pg_by 147) (pg_ml 147) (pg_rt 147)) := by rfl
set_option maxRecDepth 1000000 in
theorem pg_w148 : pg_tb 1900 = some (.code (pg_mn 148) (pg_by 148) (pg_ml 148) (pg_rt 148)) := by rfl
set_option maxRecDepth 1000000 in
theorem pg_w149 : pg_tb 1906 = some (.code (pg_mn 149) (pg_by 149) (pg_ml 149) (pg_rt 149)) := by rfl
set_option maxRecDepth 1000000 in
theorem pg_w150 : pg_tb 1918 = some (.code (pg_mn 150) (pg_by 150) (pg_ml 150) (pg_rt 150)) := by rfl
set_option maxRecDepth 1000000 in
theorem pg_w151 : pg_tb 1922 = some (.code (pg_mn 151) (pg_by 151) (pg_ml 151) (pg_rt 151)) := by rfl
set_option maxRecDepth 1000000 in
theorem pg_w152 : pg_tb 1928 = some (.code (pg_mn 152) (pg_by 152) (pg_ml 152) (pg_rt 152)) := by rfl
set_option maxRecDepth 1000000 in
theorem pg_w153 : pg_tb 1934 = some (.code (pg_mn 153) (pg_by 153) (pg_ml 153) (pg_rt 153)) := by rfl
set_option maxRecDepth 1000000 in
theorem pg_w154 : pg_tb 1940 = some (.code (pg_mn 154) (pg_by 154) (pg_ml 154) (pg_rt 154)) := by rfl
set_option maxRecDepth 1000000 in
theorem pg_w155 : pg_tb 1949 = some (.code (pg_mn 155) (pg_by 155) (pg_ml 155) (pg_rt 155)) := by rfl
set_option maxRecDepth 1000000 in
theorem pg_w156 : pg_tb 1954 = some (.code (pg_mn 156) (pg_by 156) (pg_ml 156) (pg_rt 156)) := by rfl
set_option maxRecDepth 1000000 in
theorem pg_w157 : pg_tb 1959 = some (.code (pg_mn 157) (pg_by 157) (pg_ml 157) (pg_rt 157)) := by rfl
set_option maxRecDepth 1000000 in
theorem pg_w158 : pg_tb 1963 = some (.code (pg_mn 158) (pg_by 158) (pg_ml 158) (pg_rt 158)) := by rfl
set_option maxRecDepth 1000000 in
theorem pg_w159 : pg_tb 286 = some (.code (pg_mn 159) (pg_by 159) (pg_ml 159) (pg_rt 159)) := by rfl
set_option maxRecDepth 1000000 in
theorem pg_w160 : pg_tb 509 = some (.code (pg_mn 160) (pg_by 160) (pg_ml 160) (pg_rt 160)) := by rfl
set_option maxRecDepth 1000000 in
theorem pg_w161 : pg_tb 1019 = some (.code (pg_mn 161) (pg_by 161) (pg_ml 161) (pg_rt 161)) := by rfl
set_option maxRecDepth 1000000 in
theorem pg_w162 : pg_tb 1026 = some (.code (pg_mn 162) (pg_by 162) (pg_ml 162) (pg_rt 162)) := by rfl
set_option maxRecDepth 1000000 in
theorem pg_w163 : pg_tb 1031 = some (.code (pg_mn 163) (pg_by 163) (pg_ml 163) (pg_rt 163)) := by rfl
set_option maxRecDepth 1000000 in
theorem pg_w164 : pg_tb 1035 = some (.code (pg_mn 164) (pg_by 164) (pg_ml 164) (pg_rt 164)) := by rfl
set_option maxRecDepth 1000000 in
theorem pg_w165 : pg_tb 1413 = some (.code (pg_mn 165) (pg_by 165) (pg_ml 165) (pg_rt 165)) := by rfl
set_option maxRecDepth 1000000 in
theorem pg_w166 : pg_tb 43 = some (.code (pg_mn 166) (pg_by 166) (pg_ml 166) (pg_rt 166)) := by rfl
set_option maxRecDepth 1000000 in
theorem pg_w167 : pg_tb 890 = some (.code (pg_mn 167) (pg_by 167) (pg_ml 167) (pg_rt 167)) := by rfl
set_option maxRecDepth 1000000 in
theorem pg_w168 : pg_tb 1440 = some (.code (pg_mn 168) (pg_by 168) (pg_ml 168) (pg_rt 168)) := by rfl
set_option maxRecDepth 1000000 in
theorem pg_w169 : pg_tb 1446 = some (.code (pg_mn 169) (pg_by 169) (pg_ml 169) (pg_rt 169)) := by rfl
set_option maxRecDepth 1000000 in
theorem pg_w170 : pg_tb 1450 = some (.code (pg_mn 170) (pg_by 170) (pg_ml 170) (pg_rt 170)) := by rfl
set_option maxRecDepth 1000000 in
theorem pg_w171 : pg_tb 1455 = some (.code (pg_mn 171) (pg_by 171) (pg_ml 171) (pg_rt 171)) := by rfl
set_option maxRecDepth 1000000 in
theorem pg_w172 : pg_tb 1484 = some (.code (pg_mn 172) (pg_by 172) (pg_ml 172) (pg_rt 172)) := by rfl
set_option maxRecDepth 1000000 in
theorem pg_w173 : pg_tb 1502 = some (.code (pg_mn 173) (pg_by 173) (pg_ml 173) (pg_rt 173)) := by rfl
set_option maxRecDepth 1000000 in
theorem pg_w174 : pg_tb 1562 = some (.code (pg_mn 174) (pg_by 174) (pg_ml 174) (pg_rt 174)) := by rfl
set_option maxRecDepth 1000000 in
theorem pg_w175 : pg_tb 1705 = some (.code (pg_mn 175) (pg_by 175) (pg_ml 175) (pg_rt 175)) := by rfl
set_option maxRecDepth 1000000 in
theorem pg_w176 : pg_tb 1711 = some (.code (pg_mn 176) (pg_by 176) (pg_ml 176) (pg_rt 176)) := by rfl
set_option maxRecDepth 1000000 in
theorem pg_w177 : pg_tb 1741 = some (.code (pg_mn 177) (pg_by 177) (pg_ml 177) (pg_rt 177)) := by rfl
set_option maxRecDepth 1000000 in
theorem pg_w178 : pg_tb 1751 = some (.code (pg_mn 178) (pg_by 178) (pg_ml 178) (pg_rt 178)) := by rfl
set_option maxRecDepth 1000000 in
theorem pg_w179 : pg_tb 1771 = some (.code (pg_mn 179) (pg_by 179) (pg_ml 179) (pg_rt 179)) := by rfl
set_option maxRecDepth 1000000 in
theorem pg_w180 : pg_tb 1778 = some (.code (pg_mn 180) (pg_by 180) (pg_ml 180) (pg_rt 180)) := by rfl
set_option maxRecDepth 1000000 in
theorem pg_w181 : pg_tb 2068 = some (.code (pg_mn 181) (pg_by 181) (pg_ml 181) (pg_rt 181)) := by rfl
set_option maxRecDepth 1000000 in
theorem pg_w182 : pg_tb 655 = some (.code (pg_mn 182) (pg_by 182) (pg_ml 182) (pg_rt 182)) := by rfl
set_option maxRecDepth 1000000 in
theorem pg_w183 : pg_tb 1575 = some (.code (pg_mn 183) (pg_by 183) (pg_ml 183) (pg_rt 183)) := by rfl
set_option maxRecDepth 1000000 in
theorem pg_w184 : pg_tb 1579 = some (.code (pg_mn 184) (pg_by 184) (pg_ml 184) (pg_rt 184)) := by rfl
set_option maxRecDepth 1000000 in
theorem pg_w185 : pg_tb 1586 = some (.code (pg_mn 185) (pg_by 185) (pg_ml 185) (pg_rt 185)) := by rfl
set_option maxRecDepth 1000000 in
theorem pg_w186 : pg_tb 1593 = some (.code (pg_mn 186) (pg_by 186) (pg_ml 186) (pg_rt 186)) := by rfl
set_option maxRecDepth 1000000 in
theorem pg_w187 : pg_tb 1601 = some (.code (pg_mn 187) (pg_by 187) (pg_ml 187) (pg_rt 187)) := by rfl
set_option maxRecDepth 1000000 in
theorem pg_w188 : pg_tb 1609 = some (.code (pg_mn 188) (pg_by 188) (pg_ml 188) (pg_rt 188)) := by rfl
set_option maxRecDepth 1000000 in
theorem pg_w189 : pg_tb 1615 = some (.code (pg_mn 189) (pg_by 189) (pg_ml 189) (pg_rt 189)) := by rfl
set_option maxRecDepth 1000000 in
theorem pg_w190 : pg_tb 1621 = some (.code (pg_mn 190) (pg_by 190) (pg_ml 190) (pg_rt 190)) := by rfl
set_option maxRecDepth 1000000 in
theorem pg_w191 : pg_tb 1626 = some (.code (pg_mn 191) (pg_by 191) (pg_ml 191) (pg_rt 191)) := by rfl
set_option maxRecDepth 1000000 in
theorem pg_w192 : pg_tb 1634 = some (.code (pg_mn 192) (pg_by 192) (pg_ml 192) (pg_rt 192)) := by rfl
set_option maxRecDepth 1000000 in
theorem pg_w193 : pg_tb 1638 = some (.code (pg_mn 193) (pg_by 193) (pg_ml 193) (pg_rt 193)) := by rfl
set_option maxRecDepth 1000000 in
theorem pg_w194 : pg_tb 1643 = some (.code (pg_mn 194) (pg_by 194) (pg_ml 194) (pg_rt 194)) := by rfl
set_option maxRecDepth 1000000 in
theorem pg_w195 : pg_tb 1649 = some (.code (pg_mn 195) (pg_by 195) (pg_ml 195) (pg_rt 195)) := by rfl
set_option maxRecDepth 1000000 in
theorem pg_w196 : pg_tb 1653 = some (.code (pg_mn 196) (pg_by 196) (pg_ml 196) (pg_rt 196)) := by rfl
set_option maxRecDepth 1000000 in
theorem pg_w197 : pg_tb 1663 = some (.code (pg_mn 197) (pg_by 197) (pg_ml 197) (pg_rt 197)) := by rfl
set_option maxRecDepth 1000000 in
theorem pg_w198 : pg_tb 1684 = some (.code (pg_mn 198) (pg_by 198) (pg_ml 198) (pg_rt 198)) := by rfl
set_option maxRecDepth 1000000 in
theorem pg_w199 : pg_tb 1687 = some (.code (pg_mn 199) (pg_by 199) (pg_ml 199) (pg_rt 199)) := by rfl
set_option maxRecDepth 1000000 in
theorem pg_w200 : pg_tb 1697 = some (.code (pg_mn 200) (pg_by 200) (pg_ml 200) (pg_rt 200)) := by rfl
set_option maxRecDepth 1000000 in
theorem pg_w201 : pg_tb 1701 = some (.code (pg_mn 201) (pg_by 201) (pg_ml 201) (pg_rt 201)) := by rfl
set_option maxRecDepth 1000000 in
theorem pg_w202 : pg_tb 1716 = some (.code (pg_mn 202) (pg_by 202) (pg_ml 202) (pg_rt 202)) := by rfl
set_option maxRecDepth 1000000 in
theorem pg_w203 : pg_tb 2013 = some (.code (pg_mn 203) (pg_by 203) (pg_ml 203) (pg_rt 203)) := by rfl
set_option maxRecDepth 1000000 in
theorem pg_w204 : pg_tb 2018 = some (.code (pg_mn 204) (pg_by 204) (pg_ml 204) (pg_rt 204)) := by rfl
set_option maxRecDepth 1000000 in
theorem pg_w205 : pg_tb 2023 = some (.code (pg_mn 205) (pg_by 205) (pg_ml 205) (pg_rt 205)) := by rfl
set_option maxRecDepth 1000000 in
theorem pg_w206 : pg_tb 2063 = some (.code (pg_mn 206) (pg_by 206) (pg_ml 206) (pg_rt 206)) := by rfl
set_option maxRecDepth 1000000 in
theorem pg_w207 : pg_tb 2072 = some (.code (pg_mn 207) (pg_by 207) (pg_ml 207) (pg_rt 207)) := by rfl
set_option maxRecDepth 1000000 in
theorem pg_w208 : pg_tb 2097 = some (.code (pg_mn 208) (pg_by 208) (pg_ml 208) (pg_rt 208)) := by rfl
set_option maxRecDepth 1000000 in
theorem pg_w209 : pg_tb 2169 = some (.code (pg_mn 209) (pg_by 209) (pg_ml 209) (pg_rt 209)) := by rfl
set_option maxRecDepth 1000000 in
theorem pg_w210 : pg_tb 2568 = some (.code (pg_mn 210) (pg_by 210) (pg_ml 210) (pg_rt 210)) := by rfl
set_option maxRecDepth 1000000 in
theorem pg_w211 : pg_tb 2572 = some (.code (pg_mn 211) (pg_by 211) (pg_ml 211) (pg_rt 211)) := by rfl
set_option maxRecDepth 1000000 in
theorem pg_w212 : pg_tb 2576 = some (.code (pg_mn 212) (pg_by 212) (pg_ml 212) (pg_rt 212)) := by rfl
set_option maxRecDepth 1000000 in
theorem pg_w213 : pg_tb 2580 = some (.code (pg_mn 213) (pg_by 213) (pg_ml 213) (pg_rt 213)) := by rfl
set_option maxRecDepth 1000000 in
theorem pg_w214 : pg_tb 2584 = some (.code (pg_mn 214) (pg_by 214) (pg_ml 214) (pg_rt 214)) := by rfl
set_option maxRecDepth 1000000 in
theorem pg_w215 : pg_tb 2588 = some (.code (pg_mn 215) (pg_by 215) (pg_ml 215) (pg_rt 215)) := by rfl
set_option maxRecDepth 1000000 in
theorem pg_w216 : pg_tb 2593 = some (.code (pg_mn 216) (pg_by 216) (pg_ml 216) (pg_rt 216)) := by rfl
set_option maxRecDepth 1000000 in
theorem pg_w217 : pg_tb 2597 = some (.code (pg_mn 217) (pg_by 217) (pg_ml 217) (pg_rt 217)) := by rfl
set_option maxRecDepth 1000000 in
theorem pg_w218 : pg_tb 2604 = some (.code (pg_mn 218) (pg_by 218) (pg_ml 218) (pg_rt 218)) := by rfl
set_option maxRecDepth 1000000 in
theorem pg_w219 : pg_tb 2607 = some (.code (pg_mn 219) (pg_by 219) (pg_ml 219) (pg_rt 219)) := by rfl
set_option maxRecDepth 1000000 in
theorem pg_w220 : pg_tb 2611 = some (.code (pg_mn 220) (pg_by 220) (pg_ml 220) (pg_rt 220)) := by rfl
set_option maxRecDepth 1000000 in
theorem pg_w221 : pg_tb 2615 = some (.code (pg_mn 221) (pg_by 221) (pg_ml 221) (pg_rt 221)) := by rfl
set_option maxRecDepth 1000000 in
theorem pg_w222 : pg_tb 2619 = some (.code (pg_mn 222) (pg_by 222) (pg_ml 222) (pg_rt 222)) := by rfl
set_option maxRecDepth 1000000 in
theorem pg_w223 : pg_tb 2624 = some (.code (pg_mn 223) (pg_by 223) (pg_ml 223) (pg_rt 223)) := by rfl
set_option maxRecDepth 1000000 in
theorem pg_w224 : pg_tb 2628 = some (.code (pg_mn 224) (pg_by 224) (pg_ml 224) (pg_rt 224)) := by rfl
set_option maxRecDepth 1000000 in
theorem pg_w225 : pg_tb 2632 = some (.code (pg_mn 225) (pg_by 225) (pg_ml 225) (pg_rt 225)) := by rfl
set_option maxRecDepth 1000000 in
theorem pg_w226 : pg_tb 2636 = some (.code (pg_mn 226) (pg_by 226) (pg_ml 226) (pg_rt 226)) := by rfl
set_option maxRecDepth 1000000 in
theorem pg_w227 : pg_tb 2642 = some (.code (pg_mn 227) (pg_by 227) (pg_ml 227) (pg_rt 227)) := by rfl
set_option maxRecDepth 1000000 in
theorem pg_w228 : pg_tb 2645 = some (.code (pg_mn 228) (pg_by 228) (pg_ml 228) (pg_rt 228)) := by rfl
set_option maxRecDepth 1000000 in
theorem pg_w229 : pg_tb 2650 = some (.code (pg_mn 229) (pg_by 229) (pg_ml 229) (pg_rt 229)) := by rfl
set_option maxRecDepth 1000000 in
theorem pg_w230 : pg_tb 2654 = some (.code (pg_mn 230) (pg_by 230) (pg_ml 230) (pg_rt 230)) := by rfl
set_option maxRecDepth 1000000 in
theorem pg_w231 : pg_tb 2660 = some (.code (pg_mn 231) (pg_by 231) (pg_ml 231) (pg_rt 231)) := by rfl
set_option maxRecDepth 1000000 in
theorem pg_w232 : pg_tb 2665 = some (.code (pg_mn 232) (pg_by 232) (pg_ml 232) (pg_rt 232)) := by rfl
set_option maxRecDepth 1000000 in
theorem pg_w233 : pg_tb 2669 = some (.code (pg_mn 233) (pg_by 233) (pg_ml 233) (pg_rt 233)) := by rfl
set_option maxRecDepth 1000000 in
theorem pg_w234 : pg_tb 2673 = some (.code (pg_mn 234) (pg_by 234) (pg_ml 234) (pg_rt 234)) := by rfl
set_option maxRecDepth 1000000 in
theorem pg_w235 : pg_tb 2677 = some (.code (pg_mn 235) (pg_by 235) (pg_ml 235) (pg_rt 235)) := by rfl
set_option maxRecDepth 1000000 in
theorem pg_w236 : pg_tb 2681 = some (.code (pg_mn 236) (pg_by 236) (pg_ml 236) (pg_rt 236)) := by rfl
set_option maxRecDepth 1000000 in
theorem pg_w237 : pg_tb 2687 = some (.code (pg_mn 237) (pg_by 237) (pg_ml 237) (pg_rt 237)) := by rfl
set_option maxRecDepth 1000000 in
theorem pg_w238 : pg_tb 2691 = some (.code (pg_mn 238) (pg_by 238) (pg_ml 238) (pg_rt 238)) := by rfl
set_option maxRecDepth 1000000 in
theorem pg_w239 : pg_tb 2695 = some (.code (pg_mn 239) (pg_by 239) (pg_ml 239) (pg_rt 239)) := by rfl
set_option maxRecDepth 1000000 in
theorem pg_w240 : pg_tb 2699 = some (.code (pg_mn 240) (pg_by 240) (pg_ml 240) (pg_rt 240)) := by rfl
set_option maxRecDepth 1000000 in
theorem pg_w241 : pg_tb 2703 = some (.code (pg_mn 241) (pg_by 241) (pg_ml 241) (pg_rt 241)) := by rfl
set_option maxRecDepth 1000000 in
theorem pg_w242 : pg_tb 2708 = some (.code (pg_mn 242) (pg_by 242) (pg_ml 242) (pg_rt 242)) := by rfl
set_option maxRecDepth 1000000 in
theorem pg_w243 : pg_tb 2712 = some (.code (pg_mn 243) (pg_by 243) (pg_ml 243) (pg_rt 243)) := by rfl
set_option maxRecDepth 1000000 in
theorem pg_w244 : pg_tb 2716 = some (.code (pg_mn 244) (pg_by 244) (pg_ml 244) (pg_rt 244)) := by rfl
set_option maxRecDepth 1000000 in
theorem pg_w245 : pg_tb 2720 = some (.code (pg_mn 245) (pg_by 245) (pg_ml 245) (pg_rt 245)) := by rfl
set_option maxRecDepth 1000000 in
theorem pg_w246 : pg_tb 2723 = some (.code (pg_mn 246) (pg_by 246) (pg_ml 246) (pg_rt 246)) := by rfl
set_option maxRecDepth 1000000 in
theorem pg_w247 : pg_tb 2730 = some (.code (pg_mn 247) (pg_by 247) (pg_ml 247) (pg_rt 247)) := by rfl
set_option maxRecDepth 1000000 in
theorem pg_w248 : pg_tb 2738 = some (.code (pg_mn 248) (pg_by 248) (pg_ml 248) (pg_rt 248)) := by rfl
set_option maxRecDepth 1000000 in
theorem pg_w249 : pg_tb 2742 = some (.code (pg_mn 249) (pg_by 249) (pg_ml 249) (pg_rt 249)) := by rfl
set_option maxRecDepth 1000000 in
theorem pg_w250 : pg_tb 2747 = some (.code (pg_mn 250) (pg_by 250) (pg_ml 250) (pg_rt 250)) := by rfl
set_option maxRecDepth 1000000 in
theorem pg_w251 : pg_tb 2751 = some (.code (pg_mn 251) (pg_by 251) (pg_ml 251) (pg_rt 251)) := by rfl
set_option maxRecDepth 1000000 in
theorem pg_w252 : pg_tb 2755 = some (.code (pg_mn 252) (pg_by 252) (pg_ml 252) (pg_rt 252)) := by rfl
set_option maxRecDepth 1000000 in
theorem pg_w253 : pg_tb 2760 = some (.code (pg_mn 253) (pg_by 253) (pg_ml 253) (pg_rt 253)) := by rfl
set_option maxRecDepth 1000000 in
theorem pg_w254 : pg_tb 2764 = some (.code (pg_mn 254) (pg_by 254) (pg_ml 254) (pg_rt 254)) := by rfl
set_option maxRecDepth 1000000 in
theorem pg_w255 : pg_tb 2768 = some (.code (pg_mn 255) (pg_by 255) (pg_ml 255) (pg_rt 255)) := by rfl
set_option maxRecDepth 1000000 in
theorem pg_w256 : pg_tb 2772 = some (.code (pg_mn 256) (pg_by 256) (pg_ml 256) (pg_rt 256)) := by rfl
set_option maxRecDepth 1000000 in
theorem pg_w257 : pg_tb 2776 = some (.code (pg_mn 257) (pg_by 257) (pg_ml 257) (pg_rt 257)) := by rfl
set_option maxRecDepth 1000000 in
theorem pg_w258 : pg_tb 2780 = some (.code (pg_mn 258) (pg_by 258) (pg_ml 258) (pg_rt 258)) := by rfl
set_option maxRecDepth 1000000 in
theorem pg_w259 : pg_tb 2784 = some (.code (pg_mn 259) (pg_by 259) (pg_ml 259) (pg_rt 259)) := by rfl
set_option maxRecDepth 1000000 in
theorem pg_w260 : pg_tb 2788 = some (.code (pg_mn 260) (pg_by 260) (pg_ml 260) (pg_rt 260)) := by rfl
set_option maxRecDepth 1000000 in
theorem pg_w261 : pg_tb 2792 = some (.code (pg_mn 261) (pg_by 261) (pg_ml 261) (pg_rt 261)) := by rfl
set_option maxRecDepth 1000000 in
theorem pg_w262 : pg_tb 2796 = some (.code (pg_mn 262) (pg_by 262) (pg_ml 262) (pg_rt 262)) := by rfl
set_option maxRecDepth 1000000 in
theorem pg_w263 : pg_tb 2800 = some (.code (pg_mn 263) (pg_by 263) (pg_ml 263) (pg_rt 263)) := by rfl
set_option maxRecDepth 1000000 in
theorem pg_w264 : pg_tb 2804 = some (.code (pg_mn 264) (pg_by 264) (pg_ml 264) (pg_rt 264)) := by rfl
set_option maxRecDepth 1000000 in
theorem pg_w265 : pg_tb 2808 = some (.code (pg_mn 265) (pg_by 265) (pg_ml 265) (pg_rt 265)) := by rfl
set_option maxRecDepth 1000000 in
theorem pg_w266 : pg_tb 2812 = some (.code (pg_mn 266) (pg_by 266) (pg_ml 266) (pg_rt 266)) := by rfl
set_option maxRecDepth 1000000 in
theorem pg_w267 : pg_tb 2816 = some (.code (pg_mn 267) (pg_by 267) (pg_ml 267) (pg_rt 267)) := by rfl
set_option maxRecDepth 1000000 in
theorem pg_w268 : pg_tb 2820 = some (.code (pg_mn 268) (pg_by 268) (pg_ml 268) (pg_rt 268)) := by rfl
set_option maxRecDepth 1000000 in
theorem pg_w269 : pg_tb 2824 = some (.code (pg_mn 269) (pg_by 269) (pg_ml 269) (pg_rt 269)) := by rfl
set_option maxRecDepth 1000000 in
theorem pg_w270 : pg_tb 2828 = some (.code (pg_mn 270) (pg_by 270) (pg_ml 270) (pg_rt 270)) := by rfl
set_option maxRecDepth 1000000 in
theorem pg_w271 : pg_tb 2832 = some (.code (pg_mn 271) (pg_by 271) (pg_ml 271) (pg_rt 271)) := by rfl
set_option maxRecDepth 1000000 in
theorem pg_w272 : pg_tb 2836 = some (.code (pg_mn 272) (pg_by 272) (pg_ml 272) (pg_rt 272)) := by rfl
set_option maxRecDepth 1000000 in
theorem pg_w273 : pg_tb 2840 = some (.code (pg_mn 273) (pg_by 273) (pg_ml 273) (pg_rt 273)) := by rfl
set_option maxRecDepth 1000000 in
theorem pg_w274 : pg_tb 2844 = some (.code (pg_mn 274) (pg_by 274) (pg_ml 274) (pg_rt 274)) := by rfl
set_option maxRecDepth 1000000 in
theorem pg_w275 : pg_tb 2848 = some (.code (pg_mn 275) (pg_by 275) (pg_ml 275) (pg_rt 275)) := by rfl
set_option maxRecDepth 1000000 in
theorem pg_w276 : pg_tb 2852 = some (.code (pg_mn 276) (pg_by 276) (pg_ml 276) (pg_rt 276)) := by rfl
set_option maxRecDepth 1000000 in
theorem pg_w277 : pg_tb 2856 = some (.code (pg_mn 277) (pg_by 277) (pg_ml 277) (pg_rt 277)) := by rfl
set_option maxRecDepth 1000000 in
theorem pg_w278 : pg_tb 2860 = some (.code (pg_mn 278) (pg_by 278) (pg_ml 278) (pg_rt 278)) := by rfl
set_option maxRecDepth 1000000 in
theorem pg_w279 : pg_tb 2864 = some (.code (pg_mn 279) (pg_by 279) (pg_ml 279) (pg_rt 279)) := by rfl
set_option maxRecDepth 1000000 in
theorem pg_w280 : pg_tb 2868 = some (.code (pg_mn 280) (pg_by 280) (pg_ml 280) (pg_rt 280)) := by rfl
set_option maxRecDepth 1000000 in
theorem pg_w281 : pg_tb 2872 = some (.code (pg_mn 281) (pg_by 281) (pg_ml 281) (pg_rt 281)) := by rfl
set_option maxRecDepth 1000000 in
theorem pg_w282 : pg_tb 2876 = some (.code (pg_mn 282) (pg_by 282) (pg_ml 282) (pg_rt 282)) := by rfl
set_option maxRecDepth 1000000 in
theorem pg_w283 : pg_tb 2880 = some (.code (pg_mn 283) (pg_by 283) (pg_ml 283) (pg_rt 283)) := by rfl
set_option maxRecDepth 1000000 in
theorem pg_w284 : pg_tb 2884 = some (.code (pg_mn 284) (pg_by 284) (pg_ml 284) (pg_rt 284)) := by rfl
set_option maxRecDepth 1000000 in
theorem pg_w285 : pg_tb 2888 = some (.code (pg_mn 285) (pg_by 285) (pg_ml 285) (pg_rt 285)) := by rfl
set_option maxRecDepth 1000000 in
theorem pg_w286 : pg_tb 2892 = some (.code (pg_mn 286) (pg_by 286) (pg_ml 286) (pg_rt 286)) := by rfl
set_option maxRecDepth 1000000 in
theorem pg_w287 : pg_tb 2896 = some (.code (pg_mn 287) (pg_by 287) (pg_ml 287) (pg_rt 287)) := by rfl
set_option maxRecDepth 1000000 in
theorem pg_w288 : pg_tb 2900 = some (.code (pg_mn 288) (pg_by 288) (pg_ml 288) (pg_rt 288)) := by rfl
set_option maxRecDepth 1000000 in
theorem pg_w289 : pg_tb 2905 = some (.code (pg_mn 289) (pg_by 289) (pg_ml 289) (pg_rt 289)) := by rfl
set_option maxRecDepth 1000000 in
theorem pg_w290 : pg_tb 2909 = some (.code (pg_mn 290) (pg_by 290) (pg_ml 290) (pg_rt 290)) := by rfl
set_option maxRecDepth 1000000 in
theorem pg_w291 : pg_tb 2913 = some (.code (pg_mn 291) (pg_by 291) (pg_ml 291) (pg_rt 291)) := by rfl
set_option maxRecDepth 1000000 in
theorem pg_w292 : pg_tb 2917 = some (.code (pg_mn 292) (pg_by 292) (pg_ml 292) (pg_rt 292)) := by rfl
set_option maxRecDepth 1000000 in
theorem pg_w293 : pg_tb 2921 = some (.code (pg_mn 293) (pg_by 293) (pg_ml 293) (pg_rt 293)) := by rfl
set_option maxRecDepth 1000000 in
theorem pg_w294 : pg_tb 2925 = some (.code (pg_mn 294) (pg_by 294) (pg_ml 294) (pg_rt 294)) := by rfl
set_option maxRecDepth 1000000 in
theorem pg_w295 : pg_tb 2929 = some (.code (pg_mn 295) (pg_by 295) (pg_ml 295) (pg_rt 295)) := by rfl
set_option maxRecDepth 1000000 in
theorem pg_w296 : pg_tb 2933 = some (.code (pg_mn 296) (pg_by 296) (pg_ml 296) (pg_rt 296)) := by rfl
set_option maxRecDepth 1000000 in
theorem pg_w297 : pg_tb 2938 = some (.code (pg_mn 297) (pg_by 297) (pg_ml 297) (pg_rt 297)) := by rfl
set_option maxRecDepth 1000000 in
theorem pg_w298 : pg_tb 2942 = some (.code (pg_mn 298) (pg_by 298) (pg_ml 298) (pg_rt 298)) := by rfl
set_option maxRecDepth 1000000 in
theorem pg_w299 : pg_tb 2946 = some (.code (pg_mn 299) (pg_by 299) (pg_ml 299) (pg_rt 299)) := by rfl
set_option maxRecDepth 1000000 in
theorem pg_w300 : pg_tb 2950 = some (.code (pg_mn 300) (pg_by 300) (pg_ml 300) (pg_rt 300)) := by rfl
set_option maxRecDepth 1000000 in
theorem pg_w301 : pg_tb 2954 = some (.code (pg_mn 301) (pg_by 301) (pg_ml 301) (pg_rt 301)) := by rfl
set_option maxRecDepth 1000000 in
theorem pg_w302 : pg_tb 2957 = some (.code (pg_mn 302) (pg_by 302) (pg_ml 302) (pg_rt 302)) := by rfl
set_option maxRecDepth 1000000 in
theorem pg_w303 : pg_tb 2961 = some (.code (pg_mn 303) (pg_by 303) (pg_ml 303) (pg_rt 303)) := by rfl
set_option maxRecDepth 1000000 in
theorem pg_w304 : pg_tb 2965 = some (.code (pg_mn 304) (pg_by 304) (pg_ml 304) (pg_rt 304)) := by rfl
set_option maxRecDepth 1000000 in
theorem pg_w305 : pg_tb 2971 = some (.code (pg_mn 305) (pg_by 305) (pg_ml 305) (pg_rt 305)) := by rfl
set_option maxRecDepth 1000000 in
theorem pg_w306 : pg_tb 2975 = some (.code (pg_mn 306) (pg_by 306) (pg_ml 306) (pg_rt 306)) := by rfl
set_option maxRecDepth 1000000 in
theorem pg_w307 : pg_tb 2979 = some (.code (pg_mn 307) (pg_by 307) (pg_ml 307) (pg_rt 307)) := by rfl
set_option maxRecDepth 1000000 in
theorem pg_w308 : pg_tb 2983 = some (.code (pg_mn 308) (pg_by 308) (pg_ml 308) (pg_rt 308)) := by rfl
set_option maxRecDepth 1000000 in
theorem pg_w309 : pg_tb 2987 = some (.code (pg_mn 309) (pg_by 309) (pg_ml 309) (pg_rt 309)) := by rfl
set_option maxRecDepth 1000000 in
theorem pg_w310 : pg_tb 2992 = some (.code (pg_mn 310) (pg_by 310) (pg_ml 310) (pg_rt 310)) := by rfl
set_option maxRecDepth 1000000 in
theorem pg_w311 : pg_tb 2997 = some (.code (pg_mn 311) (pg_by 311) (pg_ml 311) (pg_rt 311)) := by rfl
set_option maxRecDepth 1000000 in
theorem pg_w312 : pg_tb 3001 = some (.code (pg_mn 312) (pg_by 312) (pg_ml 312) (pg_rt 312)) := by rfl
set_option maxRecDepth 1000000 in
theorem pg_w313 : pg_tb 3005 = some (.code (pg_mn 313) (pg_by 313) (pg_ml 313) (pg_rt 313)) := by rfl
set_option maxRecDepth 1000000 in
theorem pg_w314 : pg_tb 3009 = some (.code (pg_mn 314) (pg_by 314) (pg_ml 314) (pg_rt 314)) := by rfl
set_option maxRecDepth 1000000 in
theorem pg_w315 : pg_tb 3013 = some (.code (pg_mn 315) (pg_by 315) (pg_ml 315) (pg_rt 315)) := by rfl
set_option maxRecDepth 1000000 in
theorem pg_w316 : pg_tb 3017 = some (.code (pg_mn 316) (pg_by 316) (pg_ml 316) (pg_rt 316)) := by rfl
set_option maxRecDepth 1000000 in
theorem pg_w317 : pg_tb 3021 = some (.code (pg_mn 317) (pg_by 317) (pg_ml 317) (pg_rt 317)) := by rfl
set_option maxRecDepth 1000000 in
theorem pg_w318 : pg_tb 3025 = some (.code (pg_mn 318) (pg_by 318) (pg_ml 318) (pg_rt 318)) := by rfl
set_option maxRecDepth 1000000 in
theorem pg_w319 : pg_tb 3029 = some (.code (pg_mn 319) (pg_by 319) (pg_ml 319) (pg_rt 319)) := by rfl
set_option maxRecDepth 1000000 in
theorem pg_w320 : pg_tb 3033 = some (.code (pg_mn 320) (pg_by 320) (pg_ml 320) (pg_rt 320)) := by rfl
set_option maxRecDepth 1000000 in
theorem pg_w321 : pg_tb 3037 = some (.code (pg_mn 321) (pg_by 321) (pg_ml 321) (pg_rt 321)) := by rfl
set_option maxRecDepth 1000000 in
theorem pg_w322 : pg_tb 3042 = some (.code (pg_mn 322) (pg_by 322) (pg_ml 322) (pg_rt 322)) := by rfl
set_option maxRecDepth 1000000 in
theorem pg_w323 : pg_tb 3048 = some (.code (pg_mn 323) (pg_by 323) (pg_ml 323) (pg_rt 323)) := by rfl
set_option maxRecDepth 1000000 in
theorem pg_w324 : pg_tb 3055 = some (.code (pg_mn 324) (pg_by 324) (pg_ml 324) (pg_rt 324)) := by rfl
set_option maxRecDepth 1000000 in
theorem pg_w325 : pg_tb 3059 = some (.code (pg_mn 325) (pg_by 325) (pg_ml 325) (pg_rt 325)) := by rfl
set_option maxRecDepth 1000000 in
theorem pg_w326 : pg_tb 3063 = some (.code (pg_mn 326) (pg_by 326) (pg_ml 326) (pg_rt 326)) := by rfl
set_option maxRecDepth 1000000 in
theorem pg_w327 : pg_tb 3067 = some (.code (pg_mn 327) (pg_by 327) (pg_ml 327) (pg_rt 327)) := by rfl
set_option maxRecDepth 1000000 in
theorem pg_w328 : pg_tb 3072 = some (.code (pg_mn 328) (pg_by 328) (pg_ml 328) (pg_rt 328)) := by rfl
set_option maxRecDepth 1000000 in
theorem pg_w329 : pg_tb 3076 = some (.code (pg_mn 329) (pg_by 329) (pg_ml 329) (pg_rt 329)) := by rfl
set_option maxRecDepth 1000000 in
theorem pg_w330 : pg_tb 3080 = some (.code (pg_mn 330) (pg_by 330) (pg_ml 330) (pg_rt 330)) := by rfl
set_option maxRecDepth 1000000 in
theorem pg_w331 : pg_tb 3084 = some (.code (pg_mn 331) (pg_by 331) (pg_ml 331) (pg_rt 331)) := by rfl
set_option maxRecDepth 1000000 in
theorem pg_w332 : pg_tb 3089 = some (.code (pg_mn 332) (pg_by 332) (pg_ml 332) (pg_rt 332)) := by rfl
set_option maxRecDepth 1000000 in
theorem pg_w333 : pg_tb 3093 = some (.code (pg_mn 333) (pg_by 333) (pg_ml 333) (pg_rt 333)) := by rfl
set_option maxRecDepth 1000000 in
theorem pg_w334 : pg_tb 3097 = some (.code (pg_mn 334) (pg_by 334) (pg_ml 334) (pg_rt 334)) := by rfl
set_option maxRecDepth 1000000 in
theorem pg_w335 : pg_tb 3101 = some (.code (pg_mn 335) (pg_by 335) (pg_ml 335) (pg_rt 335)) := by rfl
set_option maxRecDepth 1000000 in
theorem pg_w336 : pg_tb 3105 = some (.code (pg_mn 336) (pg_by 336) (pg_ml 336) (pg_rt 336)) := by rfl
set_option maxRecDepth 1000000 in
theorem pg_w337 : pg_tb 3109 = some (.code (pg_mn 337) (pg_by 337) (pg_ml 337) (pg_rt 337)) := by rfl
set_option maxRecDepth 1000000 in
theorem pg_w338 : pg_tb 3113 = some (.code (pg_mn 338) (pg_by 338) (pg_ml 338) (pg_rt 338)) := by rfl
set_option maxRecDepth 1000000 in
theorem pg_w339 : pg_tb 3117 = some (.code (pg_mn 339) (pg_by 339) (pg_ml 339) (pg_rt 339)) := by rfl
set_option maxRecDepth 1000000 in
theorem pg_w340 : pg_tb 3121 = some (.code (pg_mn 340) (pg_by 340) (pg_ml 340) (pg_rt 340)) := by rfl
set_option maxRecDepth 1000000 in
theorem pg_w341 : pg_tb 3125 = some (.code (pg_mn 341) (pg_by 341) (pg_ml 341) (pg_rt 341)) := by rfl
set_option maxRecDepth 1000000 in
theorem pg_w342 : pg_tb 3129 = some (.code (pg_mn 342) (pg_by 342) (pg_ml 342) (pg_rt 342)) := by rfl
set_option maxRecDepth 1000000 in
theorem pg_w343 : pg_tb 3133 = some (.code (pg_mn 343) (pg_by 343) (pg_ml 343) (pg_rt 343)) := by rfl
set_option maxRecDepth 1000000 in
theorem pg_w344 : pg_tb 3137 = some (.code (pg_mn 344) (pg_by 344) (pg_ml 344) (pg_rt 344)) := by rfl
set_option maxRecDepth 1000000 in
theorem pg_w345 : pg_tb 3141 = some (.code (pg_mn 345) (pg_by 345) (pg_ml 345) (pg_rt 345)) := by rfl
set_option maxRecDepth 1000000 in
theorem pg_w346 : pg_tb 3145 = some (.code (pg_mn 346) (pg_by 346) (pg_ml 346) (pg_rt 346)) := by rfl
set_option maxRecDepth 1000000 in
theorem pg_w347 : pg_tb 3149 = some (.code (pg_mn 347) (pg_by 347) (pg_ml 347) (pg_rt 347)) := by rfl
set_option maxRecDepth 1000000 in
theorem pg_w348 : pg_tb 3153 = some (.code (pg_mn 348) (pg_by 348) (pg_ml 348) (pg_rt 348)) := by rfl
set_option maxRecDepth 1000000 in
theorem pg_w349 : pg_tb 3157 = some (.code (pg_mn 349) (pg_by 349) (pg_ml 349) (pg_rt 349)) := by rfl
set_option maxRecDepth 1000000 in
theorem pg_w350 : pg_tb 3161 = some (.code (pg_mn 350) (pg_by 350) (pg_ml 350) (pg_rt 350)) := by rfl
set_option maxRecDepth 1000000 in
theorem pg_w351 : pg_tb 3165 = some (.code (pg_mn 351) (pg_by 351) (pg_ml 351) (pg_rt 351)) := by rfl
set_option maxRecDepth 1000000 in
theorem pg_w352 : pg_tb 3169 = some (.code (pg_mn 352) (pg_by 352) (pg_ml 352) (pg_rt 352)) := by rfl
set_option maxRecDepth 1000000 in
theorem pg_w353 : pg_tb 3173 = some (.code (pg_mn 353) (pg_by 353) (pg_ml 353) (pg_rt 353)) := by rfl
set_option maxRecDepth 1000000 in
theorem pg_w354 : pg_tb 3177 = some (.code (pg_mn 354) (pg_by 354) (pg_ml 354) (pg_rt 354)) := by rfl
set_option maxRecDepth 1000000 in
theorem pg_w355 : pg_tb 3181 = some (.code (pg_mn 355) (pg_by 355) (pg_ml 355) (pg_rt 355)) := by rfl
set_option maxRecDepth 1000000 in
theorem pg_w356 : pg_tb 3185 = some (.code (pg_mn 356) (pg_by 356) (pg_ml 356) (pg_rt 356)) := by rfl
set_option maxRecDepth 1000000 in
theorem pg_w357 : pg_tb 3190 = some (.code (pg_mn 357) (pg_by 357) (pg_ml 357) (pg_rt 357)) := by rfl
set_option maxRecDepth 1000000 in
theorem pg_w358 : pg_tb 3194 = some (.code (pg_mn 358) (pg_by 358) (pg_ml 358) (pg_rt 358)) := by rfl
set_option maxRecDepth 1000000 in
theorem pg_w359 : pg_tb 3197 = some (.code (pg_mn 359) (pg_by 359) (pg_ml 359) (pg_rt 359)) := by rfl
set_option maxRecDepth 1000000 in
theorem pg_w360 : pg_tb 3201 = some (.code (pg_mn 360) (pg_by 360) (pg_ml 360) (pg_rt 360)) := by rfl
set_option maxRecDepth 1000000 in
theorem pg_w361 : pg_tb 3205 = some (.code (pg_mn 361) (pg_by 361) (pg_ml 361) (pg_rt 361)) := by rfl
set_option maxRecDepth 1000000 in
theorem pg_w362 : pg_tb 3209 = some (.code (pg_mn 362) (pg_by 362) (pg_ml 362) (pg_rt 362)) := by rfl
set_option maxRecDepth 1000000 in
theorem pg_w363 : pg_tb 3213 = some (.code (pg_mn 363) (pg_by 363) (pg_ml 363) (pg_rt 363)) := by rfl
set_option maxRecDepth 1000000 in
theorem pg_w364 : pg_tb 3217 = some (.code (pg_mn 364) (pg_by 364) (pg_ml 364) (pg_rt 364)) := by rfl
set_option maxRecDepth 1000000 in
theorem pg_w365 : pg_tb 3221 = some (.code (pg_mn 365) (pg_by 365) (pg_ml 365) (pg_rt 365)) := by rfl
set_option maxRecDepth 1000000 in
theorem pg_w366 : pg_tb 3226 = some (.code (pg_mn 366) (pg_by 366) (pg_ml 366) (pg_rt 366)) := by rfl
set_option maxRecDepth 1000000 in
theorem pg_w367 : pg_tb 3230 = some (.code (pg_mn 367) (pg_by 367) (pg_ml 367) (pg_rt 367)) := by rfl
set_option maxRecDepth 1000000 in
theorem pg_w368 : pg_tb 3234 = some (.code (pg_mn 368) (pg_by 368) (pg_ml 368) (pg_rt 368)) := by rfl
set_option maxRecDepth 1000000 in
theorem pg_w369 : pg_tb 3238 = some (.code (pg_mn 369) (pg_by 369) (pg_ml 369) (pg_rt 369)) := by rfl
set_option maxRecDepth 1000000 in
theorem pg_w370 : pg_tb 3242 = some (.code (pg_mn 370) (pg_by 370) (pg_ml 370) (pg_rt 370)) := by rfl
set_option maxRecDepth 1000000 in
theorem pg_w371 : pg_tb 3246 = some (.code (pg_mn 371) (pg_by 371) (pg_ml 371) (pg_rt 371)) := by rfl
set_option maxRecDepth 1000000 in
theorem pg_w372 : pg_tb 3250 = some (.code (pg_mn 372) (pg_by 372) (pg_ml 372) (pg_rt 372)) := by rfl
set_option maxRecDepth 1000000 in
theorem pg_w373 : pg_tb 3254 = some (.code (pg_mn 373) (pg_by 373) (pg_ml 373) (pg_rt 373)) := by rfl
set_option maxRecDepth 1000000 in
theorem pg_w374 : pg_tb 3258 = some (.code (pg_mn 374) (pg_by 374) (pg_ml 374) (pg_rt 374)) := by rfl
set_option maxRecDepth 1000000 in
theorem pg_w375 : pg_tb 3262 = some (.code (pg_mn 375) (pg_by 375) (pg_ml 375) (pg_rt 375)) := by rfl
set_option maxRecDepth 1000000 in
theorem pg_w376 : pg_tb 3266 = some (.code (pg_mn 376) (pg_by 376) (pg_ml 376) (pg_rt 376)) := by rfl
set_option maxRecDepth 1000000 in
theorem pg_w377 : pg_tb 3270 = some (.code (pg_mn 377) (pg_by 377) (pg_ml 377) (pg_rt 377)) := by rfl
set_option maxRecDepth 1000000 in
theorem pg_w378 : pg_tb 1045 = some (.code (pg_mn 378) (pg_by 378) (pg_ml 378) (pg_rt 378)) := by rfl
set_option maxRecDepth 1000000 in
theorem pg_w379 : pg_tb 1048 = some (.code (pg_mn 379) (pg_by 379) (pg_ml 379) (pg_rt 379)) := by rfl
set_option maxRecDepth 1000000 in
theorem pg_w380 : pg_tb 1361 = some (.code (pg_mn 380) (pg_by 380) (pg_ml 380) (pg_rt 380)) := by rfl
set_option maxRecDepth 1000000 in
theorem pg_w381 : pg_tb 1461 = some (.code (pg_mn 381) (pg_by 381) (pg_ml 381) (pg_rt 381)) := by rfl
end
section
/-! links, by the class that has them -/
def pg_fkL : List (List (Nat × Nat × Nat × Nat)) := [
  [(14, 0, 0, 741), (19, 0, 1, 742), (22, 0, 2, 743), (25, 0, 3, 744), (30, 0, 4, 745), (37, 0, 5, 746), (41, 0, 7, 748), (47, 0, 8, 749), (51, 0, 9, 750), (57, 0, 10, 751), (66, 0, 11, 752), (75, 0, 12, 753), (84, 0, 13, 754), (93, 0, 14, 755), (102, 0, 15, 756), (109, 0, 16, 757), (120, 10, 1, 57), (133, 0, 6, 747), (172, 6, 2, 261), (180, 5, 7, 186), (190, 3, 18, 460), (195, 1, 4, 639), (211, 4, 0, 698), (243, 7, 8, 99), (255, 3, 3, 434), (258, 5, 14, 211), (266, 7, 15, 113), (270, 7, 16, 116), (274, 2, 11, 569), (281, 8, 1, 291), (285, 8, 2, 294), (288, 8, 3, 297), (291, 8, 4, 302), (294, 8, 5, 308), (297, 8, 11, 331), (302, 0, 17, 758), (323, 4, 6, 705), (326, 4, 7, 707), (329, 4, 12, 713), (335, 3, 19, 463), (338, 3, 14, 452), (346, 2, 12, 572), (349, 3, 17, 458), (352, 9, 4, 521), (353, 2, 17, 581), (371, 10, 0, 54), (378, 3, 13, 447), (390, 7, 4, 87)],
  [(9, 1, 0, 634), (15, 1, 1, 635), (19, 1, 2, 636), (23, 1, 3, 637), (33, 1, 4, 638), (39, 2, 4, 551), (55, 2, 16, 577), (59, 2, 18, 582), (66, 2, 11, 567), (74, 8, 4, 298), (79, 8, 10, 322), (87, 10, 0, 49), (91, 8, 7, 311), (94, 8, 5, 303), (101, 2, 5, 554), (105, 9, 5, 523), (110, 2, 6, 557), (113, 9, 3, 518), (114, 9, 1, 514), (117, 9, 2, 516), (120, 2, 13, 573), (123, 2, 12, 570), (134, 3, 3, 431), (140, 3, 12, 445), (169, 5, 14, 207), (180, 2, 7, 560), (183, 2, 8, 563), (189, 8, 11, 327), (190, 3, 14, 449), (197, 7, 8, 96), (221, 3, 19, 461), (242, 2, 17, 579), (271, 7, 5, 90)],
  [(9, 2, 0, 546), (15, 2, 1, 547), (21, 2, 2, 548), (26, 2, 3, 549), (30, 2, 4, 550), (34, 2, 5, 553), (38, 2, 6, 556), (41, 2, 7, 559), (44, 2, 8, 562), (47, 2, 9, 564), (51, 2, 10, 565), (54, 2, 11, 566), (58, 8, 4, 299), (66, 2, 18, 583), (86, 8, 10, 324), (96, 8, 11, 329), (99, 3, 3, 432), (105, 6, 2, 260), (116, 5, 14, 210), (125, 3, 14, 450), (132, 8, 9, 320), (139, 2, 12, 571), (142, 2, 13, 574), (161, 7, 8, 97), (200, 5, 16, 215), (203, 5, 15, 213), (209, 2, 17, 580), (215, 8, 5, 306), (222, 3, 15, 455), (232, 5, 8, 191), (234, 5, 5, 179), (237, 5, 13, 204), (261, 2, 14, 575), (264, 9, 5, 524), (265, 9, 4, 520), (277, 2, 15, 576), (280, 5, 7, 188), (283, 2, 16, 578), (286, 8, 6, 310), (292, 5, 6, 183), (300, 8, 8, 317)],
  [(9, 3, 0, 426), (15, 3, 1, 427), (19, 3, 2, 428), (27, 3, 3, 430), (32, 3, 4, 435), (37, 3, 5, 436), (43, 3, 6, 437), (49, 3, 7, 438), (55, 3, 8, 439), (59, 3, 9, 440), (62, 3, 10, 441), (66, 3, 11, 442), (70, 3, 12, 444), (79, 3, 13, 446), (82, 3, 18, 459), (86, 3, 14, 448), (89, 3, 15, 454), (92, 6, 1, 258), (99, 5, 5, 177), (102, 5, 6, 181), (109, 7, 10, 102), (121, 8, 8, 315), (128, 8, 9, 319), (135, 7, 4, 86), (165, 7, 15, 112), (167, 7, 16, 115), (170, 3, 17, 457), (173, 3, 19, 462), (177, 6, 2, 262), (188, 5, 7, 187), (195, 5, 11, 200), (197, 5, 4, 176), (207, 7, 11, 107), (213, 7, 0, 78), (249, 8, 0, 288), (251, 7, 1, 80), (254, 8, 1, 290), (255, 7, 2, 82), (258, 8, 2, 293), (259, 8, 3, 296), (262, 8, 4, 301), (269, 8, 5, 307), (281, 8, 6, 309), (284, 7, 5, 91), (290, 8, 7, 314), (295, 8, 10, 325), (298, 8, 11, 330), (301, 8, 12, 333), (307, 7, 8, 100), (318, 5, 12, 202), (328, 5, 10, 198), (336, 5, 8, 192), (339, 5, 9, 195), (342, 5, 13, 205), (346, 3, 16, 456)],
  [(15, 4, 0, 697), (21, 4, 1, 699), (25, 4, 2, 700), (28, 4, 3, 701), (31, 4, 4, 702), (35, 4, 5, 703), (38, 10, 1, 55), (78, 10, 0, 51), (84, 4, 7, 706), (88, 4, 6, 704), (94, 4, 12, 712), (97, 4, 9, 709), (116, 4, 8, 708), (119, 4, 10, 710), (122, 4, 11, 711)],
  [(9, 5, 0, 166), (15, 5, 1, 168), (18, 5, 2, 170), (21, 5, 3, 172), (47, 5, 4, 175), (50, 5, 5, 178), (53, 5, 6, 182), (57, 5, 7, 185), (60, 5, 8, 190), (63, 5, 9, 194), (66, 5, 10, 197), (70, 5, 11, 199), (73, 5, 12, 201), (76, 5, 13, 203), (79, 5, 14, 209), (82, 5, 15, 212), (85, 5, 16, 214), (88, 5, 17, 216)],
  [(15, 6, 0, 256), (22, 6, 1, 257), (26, 6, 2, 259), (30, 5, 0, 167), (34, 5, 1, 169), (37, 5, 2, 171), (40, 5, 3, 173)],
  [(9, 7, 0, 77), (15, 7, 1, 79), (19, 7, 2, 81), (22, 7, 3, 83), (26, 7, 4, 84), (29, 7, 5, 88), (32, 7, 6, 92), (35, 7, 8, 95), (38, 7, 9, 101), (41, 7, 11, 106), (44, 7, 15, 111), (48, 7, 16, 114), (51, 10, 0, 50), (60, 7, 7, 94), (85, 7, 10, 103), (95, 7, 12, 108), (168, 7, 13, 109), (212, 7, 14, 110)],
  [],
  [(9, 9, 0, 512), (16, 9, 1, 513), (20, 9, 2, 515), (23, 9, 3, 517), (27, 9, 4, 519), (30, 9, 5, 522), (34, 8, 7, 312), (39, 8, 5, 304), (54, 10, 0, 52), (58, 8, 9, 318), (62, 8, 10, 323), (65, 8, 11, 328)],
  [(15, 10, 0, 48), (21, 10, 1, 56), (25, 10, 2, 59)],
  [(9, 11, 0, 660), (15, 11, 1, 661), (19, 11, 2, 662), (28, 11, 3, 663), (31, 11, 4, 664), (37, 11, 5, 665), (44, 7, 11, 105), (57, 10, 1, 58), (82, 3, 11, 443), (118, 2, 11, 568), (127, 8, 11, 326), (133, 8, 5, 305), (137, 8, 4, 300), (140, 8, 1, 289), (145, 8, 2, 292), (148, 8, 3, 295), (151, 3, 15, 453), (158, 5, 14, 208), (159, 10, 2, 60), (171, 5, 3, 174), (189, 7, 4, 85), (201, 7, 6, 93), (204, 10, 0, 53), (207, 7, 5, 89), (224, 3, 14, 451), (252, 11, 8, 668), (259, 8, 9, 321), (262, 8, 12, 332), (269, 7, 8, 98), (279, 11, 7, 667), (282, 11, 6, 666), (285, 3, 3, 433), (289, 6, 2, 263), (295, 5, 17, 217), (300, 3, 2, 429), (325, 8, 7, 313), (357, 7, 10, 104), (361, 8, 8, 316), (375, 5, 5, 180), (378, 5, 6, 184), (381, 5, 9, 196), (384, 5, 7, 189), (387, 5, 8, 193), (403, 5, 13, 206), (408, 2, 4, 552), (415, 2, 6, 558), (418, 2, 5, 555), (421, 2, 7, 561)],
  [(7, 12, 1, 2175), (14, 12, 3, 2177), (17, 12, 6, 2180), (20, 12, 7, 2181), (24, 12, 8, 2182), (27, 12, 9, 2183), (30, 12, 10, 2184), (33, 12, 11, 2185), (37, 12, 12, 2186), (40, 12, 13, 2187), (44, 12, 17, 2191), (47, 12, 18, 2192), (50, 12, 19, 2193), (54, 12, 21, 2195), (57, 12, 22, 2196), (60, 12, 23, 2197), (63, 12, 24, 2198), (66, 12, 25, 2199), (69, 12, 26, 2200), (72, 12, 27, 2201), (75, 12, 28, 2202), (78, 12, 29, 2203), (82, 12, 30, 2204), (85, 12, 33, 2207), (88, 12, 34, 2208), (91, 12, 35, 2209), (94, 12, 36, 2210), (97, 12, 37, 2211), (100, 12, 38, 2212), (103, 12, 39, 2213), (106, 12, 40, 2214), (109, 12, 41, 2215), (112, 12, 42, 2216), (115, 12, 45, 2219), (118, 12, 46, 2220), (121, 12, 47, 2221), (124, 12, 49, 2223), (127, 12, 51, 2225), (130, 12, 52, 2226), (133, 12, 53, 2227), (136, 12, 54, 2228), (139, 12, 55, 2229), (142, 12, 56, 2230), (145, 12, 57, 2231), (148, 12, 58, 2232), (151, 12, 59, 2233), (154, 12, 60, 2234), (157, 12, 61, 2235), (160, 12, 62, 2236), (163, 12, 63, 2237), (166, 12, 65, 2239), (169, 12, 66, 2240), (172, 12, 67, 2241), (175, 12, 71, 2245), (178, 12, 72, 2246), (181, 12, 73, 2247), (184, 12, 75, 2249), (187, 12, 76, 2250), (190, 12, 77, 2251), (193, 12, 78, 2252), (196, 12, 91, 2265), (200, 12, 92, 2266), (203, 12, 93, 2267), (206, 12, 94, 2268), (209, 12, 95, 2269), (212, 12, 96, 2270), (215, 12, 97, 2271), (218, 12, 99, 2273), (221, 12, 100, 2274), (224, 12, 105, 2279), (227, 12, 106, 2280), (230, 12, 107, 2281), (233, 12, 108, 2282), (236, 12, 109, 2283), (239, 12, 110, 2284), (242, 12, 111, 2285), (245, 12, 112, 2286), (248, 12, 113, 2287), (251, 12, 114, 2288), (254, 12, 116, 2290), (257, 12, 117, 2291), (260, 12, 118, 2292), (263, 12, 119, 2293), (266, 12, 120, 2294), (269, 12, 121, 2295), (272, 12, 122, 2296), (275, 12, 128, 2302), (278, 12, 129, 2303), (281, 12, 0, 2174), (284, 12, 2, 2176), (467, 12, 5, 2179), (473, 12, 20, 2194), (486, 12, 31, 2205), (489, 12, 48, 2222), (492, 12, 32, 2206), (509, 12, 68, 2242), (519, 12, 4, 2178), (522, 12, 70, 2244), (528, 12, 69, 2243), (531, 12, 14, 2188), (557, 12, 98, 2272), (577, 12, 74, 2248), (601, 12, 50, 2224), (607, 12, 89, 2263), (614, 12, 88, 2262), (626, 12, 90, 2264), (630, 12, 15, 2189), (643, 12, 81, 2255), (650, 12, 84, 2258), (653, 12, 85, 2259), (656, 12, 86, 2260), (659, 12, 83, 2257), (662, 12, 87, 2261), (665, 12, 64, 2238), (674, 12, 80, 2254), (681, 12, 79, 2253), (696, 12, 82, 2256), (747, 12, 16, 2190), (799, 12, 43, 2217), (813, 12, 123, 2297), (816, 12, 126, 2300), (822, 12, 125, 2299), (825, 12, 124, 2298), (884, 12, 127, 2301), (916, 12, 101, 2275), (924, 12, 115, 2289), (936, 12, 103, 2277), (939, 12, 102, 2276), (942, 12, 104, 2278), (948, 12, 44, 2218)],
  [],
  [],
  [],
  [],
  [],
  [],
  [],
  []]
def pg_fk (oc : Nat) : List (Nat × Nat × Nat × Nat) := pg_fkL.getD oc []
def pg_mkL : List (List (Nat × Nat × Nat)) := [
  [(11, 166, 41), (34, 125, 73), (46, 121, 154), (63, 71, 275), (72, 160, 507), (81, 49, 540), (90, 39, 627), (99, 182, 653), (108, 100, 690), (129, 170, 1845), (138, 16, 1854), (142, 168, 1558), (145, 20, 1965), (150, 2, 800), (154, 183, 1572), (158, 6, 1669), (162, 23, 1984), (168, 124, 1991), (177, 123, 1993), (186, 198, 1681), (198, 203, 2010), (202, 101, 1722), (206, 102, 1730), (214, 105, 1753), (217, 117, 1757), (221, 119, 1563), (224, 103, 1758), (228, 27, 2036), (237, 206, 2060), (246, 126, 2085), (249, 127, 2086), (252, 208, 2094), (261, 28, 2040), (273, 133, 2122), (277, 57, 2131), (298, 106, 1763), (305, 108, 1785), (308, 110, 1803), (311, 111, 1812), (317, 177, 1868), (332, 38, 2156), (340, 99, 2160), (343, 61, 2164), (356, 72, 804), (359, 50, 1008), (362, 68, 1423), (365, 40, 1428), (368, 44, 1503), (374, 174, 1559), (381, 114, 1988), (384, 167, 1870), (387, 115, 1989), (393, 143, 1873), (400, 179, 1859), (404, 17, 1860), (408, 144, 1877), (412, 18, 1864)],
  [(30, 166, 633), (36, 41, 1432), (51, 42, 1471), (62, 171, 1452), (70, 57, 1475), (83, 43, 1476), (97, 172, 1481), (126, 69, 1486), (130, 173, 1499), (143, 124, 1436), (149, 168, 1437), (155, 169, 1443), (163, 170, 1463), (176, 61, 1467), (186, 58, 1480), (193, 94, 1507), (202, 97, 1508), (206, 139, 1509), (210, 130, 1510), (213, 45, 1511), (217, 128, 1515), (228, 98, 1528), (231, 46, 1529), (234, 47, 1540), (238, 48, 1546), (247, 54, 1545), (251, 80, 1550), (255, 141, 1551), (258, 96, 1555), (261, 140, 1556), (264, 165, 1557), (268, 70, 1533)],
  [(70, 51, 1012), (73, 52, 1036), (76, 56, 1355), (79, 60, 1376), (82, 57, 1362), (90, 165, 1410), (108, 122, 1414), (112, 66, 1415), (119, 161, 1016), (128, 77, 1022), (135, 162, 1023), (151, 378, 1043), (157, 94, 1328), (166, 97, 1329), (169, 139, 1333), (173, 130, 1334), (177, 53, 1335), (181, 128, 1339), (185, 98, 1340), (189, 54, 1346), (193, 55, 1351), (196, 80, 1350), (206, 70, 1490), (212, 380, 1359), (218, 58, 1366), (225, 90, 1372), (228, 59, 1373), (238, 61, 1380), (254, 62, 1391), (257, 63, 1395), (266, 64, 1399), (272, 65, 1403), (294, 67, 1419), (297, 136, 1494), (303, 140, 1495)],
  [(24, 121, 280), (46, 125, 362), (75, 113, 366), (95, 80, 905), (105, 94, 981), (112, 128, 900), (118, 77, 840), (124, 138, 985), (132, 73, 808), (138, 75, 832), (142, 84, 927), (148, 87, 950), (158, 88, 957), (162, 89, 961), (180, 122, 812), (184, 123, 816), (191, 74, 828), (200, 118, 945), (203, 85, 931), (210, 137, 935), (217, 133, 879), (220, 117, 883), (224, 124, 941), (227, 86, 942), (231, 76, 836), (235, 78, 871), (238, 79, 891), (241, 82, 913), (245, 126, 844), (265, 127, 848), (272, 129, 856), (287, 130, 863), (292, 131, 867), (304, 132, 875), (310, 134, 895), (315, 135, 901), (321, 81, 909), (325, 136, 917), (331, 83, 921), (343, 90, 965), (349, 91, 969), (353, 93, 977), (357, 92, 973), (360, 139, 993), (363, 95, 999), (367, 96, 1003)],
  [(12, 166, 696), (46, 179, 1768), (50, 177, 1738), (60, 180, 1775), (64, 107, 1780), (75, 168, 1789), (80, 174, 1790), (91, 109, 1791), (100, 104, 1743), (125, 167, 1747), (129, 178, 1748), (133, 103, 1734), (137, 101, 1807)],
  [(25, 114, 370), (28, 167, 887), (34, 115, 422), (91, 170, 1567)],
  [(43, 124, 820), (47, 116, 824)],
  [(63, 128, 852), (67, 134, 989), (73, 135, 991), (76, 126, 992), (80, 127, 997), (88, 132, 939), (92, 136, 940), (98, 145, 1881), (102, 146, 1888), (105, 148, 1897), (109, 150, 1915), (112, 152, 1925), (116, 154, 1937), (120, 156, 1951), (123, 157, 1956), (133, 147, 1892), (138, 130, 1902), (141, 142, 1903), (144, 149, 1904), (148, 129, 1909), (161, 151, 1919), (173, 153, 1931), (176, 140, 1936), (179, 178, 1935), (191, 378, 1943), (197, 138, 1944), (200, 139, 1945), (203, 155, 1946), (215, 158, 1960)],
  [],
  [(40, 167, 1027), (46, 163, 1028), (50, 164, 1032)],
  [(29, 167, 1742), (37, 170, 1447), (46, 381, 1459)],
  [(25, 166, 658), (41, 168, 1595), (50, 132, 2064), (54, 136, 1644), (60, 171, 1597), (64, 140, 1645), (68, 181, 2065), (74, 170, 1616), (78, 207, 2070), (88, 133, 1689), (91, 117, 1690), (95, 119, 1665), (102, 126, 2073), (123, 57, 2098), (134, 175, 1702), (154, 90, 1589), (163, 199, 1685), (167, 137, 1688), (177, 169, 1693), (181, 200, 1694), (185, 202, 1713), (194, 201, 1699), (198, 176, 1708), (210, 174, 1622), (216, 184, 1576), (219, 185, 1583), (227, 187, 1598), (230, 191, 1623), (233, 193, 1635), (236, 197, 1660), (239, 188, 1607), (246, 173, 1667), (255, 77, 1580), (265, 94, 1581), (272, 97, 1582), (275, 80, 1587), (292, 122, 1588), (296, 186, 1590), (303, 124, 1594), (307, 134, 1602), (310, 142, 1603), (313, 189, 1612), (317, 129, 1617), (320, 190, 1618), (328, 139, 1627), (331, 130, 1628), (336, 128, 1630), (340, 192, 1631), (350, 194, 1640), (353, 196, 1650), (364, 195, 1647), (368, 120, 1654), (372, 118, 1658), (391, 61, 2014), (394, 204, 2015), (398, 205, 2020), (404, 58, 2019)],
  [(287, 212, 2573), (291, 215, 2585), (295, 221, 2612), (299, 220, 2608), (304, 226, 2633), (313, 218, 2601), (317, 230, 2651), (320, 224, 2625), (323, 223, 2621), (326, 235, 2674), (329, 231, 2657), (332, 267, 2813), (343, 219, 2605), (347, 225, 2629), (353, 227, 2639), (356, 228, 2643), (366, 232, 2662), (369, 233, 2666), (372, 234, 2670), (375, 236, 2678), (380, 237, 2684), (383, 238, 2688), (386, 239, 2692), (405, 247, 2728), (408, 242, 2705), (411, 245, 2717), (415, 246, 2721), (419, 241, 2700), (422, 243, 2709), (425, 244, 2713), (431, 251, 2748), (435, 249, 2739), (438, 250, 2744), (441, 217, 2594), (445, 222, 2616), (448, 229, 2647), (451, 240, 2696), (454, 248, 2735), (461, 216, 2590), (464, 252, 2752), (470, 214, 2581), (476, 268, 2817), (479, 262, 2793), (483, 261, 2789), (495, 255, 2765), (499, 256, 2769), (503, 271, 2829), (506, 276, 2849), (513, 273, 2837), (516, 275, 2845), (525, 272, 2833), (534, 270, 2825), (538, 274, 2841), (541, 266, 2809), (544, 277, 2853), (548, 265, 2805), (551, 269, 2821), (554, 264, 2801), (560, 283, 2877), (563, 284, 2881), (567, 282, 2873), (570, 280, 2865), (574, 285, 2885), (580, 298, 2939), (585, 297, 2935), (588, 296, 2930), (591, 287, 2893), (594, 295, 2926), (597, 299, 2943), (604, 288, 2897), (610, 292, 2914), (617, 290, 2906), (620, 291, 2910), (623, 293, 2918), (633, 302, 2955), (636, 303, 2958), (639, 306, 2973), (646, 309, 2984), (670, 307, 2976), (677, 308, 2980), (686, 310, 2989), (690, 301, 2951), (693, 304, 2962), (703, 305, 2968), (709, 311, 2994), (712, 312, 2998), (716, 313, 3002), (719, 317, 3018), (722, 318, 3022), (725, 319, 3026), (732, 315, 3010), (736, 316, 3014), (739, 320, 3030), (743, 322, 3039), (750, 321, 3034), (762, 314, 3006), (766, 260, 2785), (769, 263, 2797), (772, 278, 2857), (775, 279, 2861), (778, 281, 2869), (781, 286, 2889), (784, 289, 2902), (787, 294, 2922), (790, 300, 2947), (793, 323, 3045), (796, 324, 3052), (802, 326, 3060), (805, 327, 3064), (810, 328, 3069), (819, 334, 3094), (828, 336, 3102), (831, 340, 3118), (835, 339, 3114), (838, 338, 3110), (841, 341, 3122), (844, 333, 3090), (847, 335, 3098), (850, 337, 3106), (853, 342, 3126), (856, 344, 3134), (859, 343, 3130), (863, 345, 3138), (866, 347, 3146), (869, 346, 3142), (873, 348, 3150), (877, 259, 3085), (881, 332, 3086), (887, 353, 3170), (890, 350, 3158), (893, 351, 3162), (896, 352, 3166), (899, 354, 3174), (904, 356, 3182), (907, 357, 3187), (910, 359, 3195), (913, 360, 3198), (919, 364, 3214), (927, 363, 3210), (930, 365, 3218), (933, 362, 3206), (945, 366, 3223), (951, 367, 3227), (955, 369, 3235)],
  [],
  [],
  [],
  [(7, 14, 1822), (17, 15, 1849), (21, 21, 1972), (24, 22, 1980), (28, 24, 1997), (31, 25, 2005), (34, 26, 2032), (40, 29, 2080), (44, 30, 2090), (47, 31, 2103), (51, 32, 2110), (55, 33, 2118), (58, 34, 2126), (61, 35, 2135), (65, 36, 2143), (68, 37, 2151), (71, 0, 33), (74, 209, 2167), (77, 382, 1817), (82, 211, 2569), (83, 210, 2565), (86, 383, 1846), (89, 213, 2577), (90, 384, 1969), (92, 253, 2757), (93, 1, 796), (97, 259, 2781), (98, 5, 1568), (101, 331, 3081), (102, 385, 1977), (105, 254, 2761), (106, 386, 1994), (108, 257, 2773), (109, 7, 1673), (112, 258, 2777), (113, 8, 1677), (116, 349, 3154), (117, 387, 2002), (119, 325, 3056), (120, 9, 1718), (124, 368, 3231), (125, 388, 2028), (128, 355, 3178), (129, 389, 2077), (132, 330, 3077), (133, 390, 2087), (135, 358, 3191), (136, 391, 2100), (138, 372, 3247), (139, 392, 2107), (141, 373, 3251), (142, 393, 2115), (144, 329, 3073), (145, 394, 2123), (147, 374, 3255), (148, 395, 2132), (151, 375, 3259), (152, 11, 1759), (155, 361, 3202), (156, 12, 1799), (159, 370, 3239), (160, 13, 1808), (163, 371, 3243), (164, 396, 2140), (166, 376, 3263), (167, 397, 2148), (169, 377, 3267)],
  [(13, 379, 1046)],
  [],
  [],
  []]
def pg_mk (oc : Nat) : List (Nat × Nat × Nat) := pg_mkL.getD oc []
def pg_mhL : List (List (Nat × Nat × Nat)) := [
  [(56, 112, 272)],
  [(224, 4, 1516)],
  [(25, 159, 545), (246, 3, 1386)],
  [(36, 159, 284), (65, 112, 364)],
  [(68, 10, 1726)],
  [],
  [(21, 112, 162)],
  [(56, 10, 1896), (151, 19, 1910), (207, 4, 1950)],
  [],
  [],
  [(33, 10, 1779)],
  [(344, 3, 1611)],
  [],
  [],
  [],
  [],
  [],
  [],
  [],
  [],
  []]
def pg_mh (oc : Nat) : List (Nat × Nat × Nat) := pg_mhL.getD oc []
def pg_nwL : List (List (Nat × Nat × Nat)) := [
  [(9, 10, 39), (28, 7, 70), (44, 6, 152), (54, 5, 271), (61, 3, 273), (70, 9, 505), (79, 2, 538), (88, 1, 625), (97, 11, 651), (106, 4, 688), (113, 13, 1826), (124, 14, 1829), (232, 15, 2044)],
  [(27, 10, 631)],
  [(19, 8, 544)],
  [(22, 6, 279), (30, 8, 281), (41, 7, 361), (53, 5, 363)],
  [(9, 10, 694)],
  [],
  [(13, 5, 159)],
  [],
  [],
  [],
  [],
  [(23, 10, 657)],
  [],
  [],
  [],
  [],
  [(8, 0, 31), (72, 12, 2165)],
  [(43, 13, 1049)],
  [],
  [],
  []]
def pg_nw (oc : Nat) : List (Nat × Nat × Nat) := pg_nwL.getD oc []
def pg_aqL : List (List (Nat × Nat × Nat)) := [
  [(28, 4, 70)],
  [],
  [(19, 6, 544)],
  [(30, 6, 281), (41, 4, 361), (53, 5, 363)],
  [],
  [],
  [(13, 5, 159)],
  [],
  [],
  [],
  [],
  [(35, 5, 659)],
  [],
  [],
  [],
  [],
  [],
  [],
  [],
  [],
  []]
def pg_aq (oc : Nat) : List (Nat × Nat × Nat) := pg_aqL.getD oc []
def pg_liL : List (List (Nat × Nat × Nat)) := [
  [(18, 0, 69)],
  [(29, 0, 632)],
  [],
  [(335, 1, 925), (338, 2, 926)],
  [(11, 0, 695)],
  [],
  [],
  [(171, 2, 1929), (172, 1, 1930)],
  [],
  [(15, 3, 511)],
  [(41, 4, 1706)],
  [(101, 1, 1659), (360, 2, 1646)],
  [(13, 0, 2171), (53, 5, 2172), (199, 6, 2173), (378, 2, 2682), (379, 1, 2683)],
  [],
  [],
  [],
  [],
  [],
  [],
  [],
  []]
def pg_li (oc : Nat) : List (Nat × Nat × Nat) := pg_liL.getD oc []
def pg_llL : List (List (Nat × Nat × Nat)) := [
  [(209, 9, 1752), (415, 11, 1869), (417, 12, 1871), (419, 13, 1872), (421, 10, 1729), (423, 14, 1913), (425, 0, 1519), (427, 1, 1520), (429, 2, 1521), (431, 3, 1522), (433, 4, 1523), (435, 5, 1524), (437, 6, 1525), (439, 7, 1526), (441, 8, 1527)],
  [(49, 14, 1470), (159, 15, 1451), (161, 1, 1462), (167, 16, 1464), (172, 17, 1465), (174, 18, 1466), (245, 25, 1544), (273, 19, 1534), (275, 20, 1535), (277, 21, 1536), (279, 22, 1537), (281, 23, 1538), (283, 24, 1539)],
  [(64, 28, 1427), (242, 26, 1384), (244, 15, 1385), (250, 14, 1389), (252, 27, 1390), (270, 25, 1408), (275, 9, 1409)],
  [(116, 30, 1007), (313, 29, 899), (370, 31, 1344), (372, 1, 1345)],
  [(54, 1, 1772), (56, 16, 1773), (58, 18, 1774), (71, 28, 1783), (73, 32, 1784), (104, 17, 1795), (106, 30, 1796), (114, 33, 1798), (141, 9, 1816)],
  [],
  [],
  [(71, 2, 990), (83, 30, 998), (129, 16, 1886), (131, 17, 1887), (136, 25, 1901), (155, 34, 1914), (157, 1, 1907), (159, 35, 1908), (164, 36, 1923), (166, 33, 1924), (210, 29, 1955), (218, 13, 1964)],
  [],
  [],
  [],
  [(72, 39, 2069), (99, 12, 1712), (143, 40, 2099), (192, 37, 1698), (202, 38, 1717), (214, 11, 1707), (222, 17, 1596), (250, 16, 1668), (323, 25, 1610), (334, 2, 1629), (348, 1, 1639), (389, 33, 1664), (401, 30, 2027), (424, 15, 2026)],
  [(302, 25, 2620), (307, 1, 2637), (309, 35, 2901), (311, 2, 2704), (335, 14, 2646), (337, 42, 2598), (339, 16, 2599), (341, 17, 2600), (351, 34, 2638), (360, 30, 2655), (362, 36, 2656), (364, 33, 2661), (389, 3, 2731), (391, 5, 2732), (393, 7, 2733), (395, 8, 2734), (397, 0, 2724), (399, 12, 2725), (401, 4, 2726), (403, 6, 2727), (429, 29, 2743), (457, 13, 2756), (459, 41, 2589), (583, 31, 2934), (668, 15, 2972), (684, 9, 2988), (699, 18, 2966), (701, 26, 2967), (707, 28, 2993), (728, 43, 3043), (730, 44, 3044), (754, 22, 3038), (756, 45, 3049), (758, 46, 3050), (760, 47, 3051), (808, 48, 3068), (902, 49, 3186), (922, 32, 3222)],
  [],
  [],
  [],
  [(75, 50, 3271)],
  [],
  [],
  [],
  []]
def pg_ll (oc : Nat) : List (Nat × Nat × Nat) := pg_llL.getD oc []
def pg_gsL : List (List (Nat × Nat × Nat)) := [
  [(397, 1, 1858)],
  [],
  [],
  [],
  [],
  [],
  [],
  [],
  [],
  [],
  [],
  [],
  [],
  [],
  [],
  [],
  [],
  [],
  [],
  [],
  []]
def pg_gs (oc : Nat) : List (Nat × Nat × Nat) := pg_gsL.getD oc []
def pg_ghL : List (List (Nat × Nat × Nat)) := [
  [],
  [(45, 2, 1468), (152, 3, 1441)],
  [(61, 5, 1370), (122, 4, 1020)],
  [],
  [(42, 3, 1767)],
  [],
  [],
  [(126, 3, 1885)],
  [],
  [],
  [],
  [(173, 1, 1691), (243, 3, 1666), (412, 6, 2024)],
  [],
  [],
  [],
  [],
  [],
  [],
  [],
  [],
  []]
def pg_gh (oc : Nat) : List (Nat × Nat × Nat) := pg_ghL.getD oc []
def pg_spL : List (List (Nat × Nat × Nat)) := [
  [(3, 9006, 36), (117, 9011, 1828), (128, 9012, 1839), (236, 9013, 2054)],
  [(3, 9006, 630)],
  [(3, 9006, 543), (145, 9002, 1040), (289, 9003, 1407)],
  [(3, 9006, 278), (275, 9003, 860)],
  [(3, 9006, 693), (108, 9004, 1797)],
  [(3, 9006, 165), (38, 9007, 374), (43, 9008, 384)],
  [(1, 9006, 157), (7, 9001, 158)],
  [(3, 9006, 76), (183, 9001, 1941), (188, 9002, 1942)],
  [(1, 9006, 287)],
  [(3, 9006, 510)],
  [(3, 9006, 44), (9, 9001, 45), (42, 9004, 1456), (52, 9005, 1485)],
  [(3, 9006, 656), (108, 9007, 2075), (114, 9008, 2076)],
  [(1, 9006, 2170)],
  [],
  [],
  [],
  [],
  [(65, 9011, 1282)],
  [],
  [],
  []]
def pg_sp (oc : Nat) : List (Nat × Nat × Nat) := pg_spL.getD oc []
def pg_okw (i : Nat) (w : Cond) : Bool := decide (pg_tb i = some w) && goodWord w
theorem pg_okw_in {i : Nat} {w : Cond} (h : pg_okw i w = true) : w ∈ pg_Ts := by
  simp only [pg_okw, Bool.and_eq_true, decide_eq_true_eq] at h
  exact pg_at h.1 h.2
def pg_okn (i : Nat) (w : Cond) : Bool := decide (pg_tb i = some w) && decide (i ∈ pg_nsx)
theorem pg_okn_in {i : Nat} {w : Cond} (h : pg_okn i w = true) : w ∈ pg_Ns := by
  simp only [pg_okn, Bool.and_eq_true, decide_eq_true_eq] at h
  exact List.mem_filterMap.mpr ⟨i, h.2, h.1⟩
def pg_cfk (oc : Nat) (z : Nat × Nat × Nat × Nat) : Bool := decide (z.2.1 < 16) && (decide (z.2.2.1 < pg_nf z.2.1) && pg_okw z.2.2.2 (.fieldLink (pg_cn oc) z.1 (pg_T z.2.1 z.2.2.1).1 (pg_T z.2.1 z.2.2.1).2.1 (pg_T z.2.1 z.2.2.1).2.2.1))
theorem pg_cfk_0 : ∀ z ∈ pg_fk 0, pg_cfk 0 z = true := by decide +kernel
theorem pg_cfk_1 : ∀ z ∈ pg_fk 1, pg_cfk 1 z = true := by decide +kernel
theorem pg_cfk_2 : ∀ z ∈ pg_fk 2, pg_cfk 2 z = true := by decide +kernel
theorem pg_cfk_3 : ∀ z ∈ pg_fk 3, pg_cfk 3 z = true := by decide +kernel
theorem pg_cfk_4 : ∀ z ∈ pg_fk 4, pg_cfk 4 z = true := by decide +kernel
theorem pg_cfk_5 : ∀ z ∈ pg_fk 5, pg_cfk 5 z = true := by decide +kernel
theorem pg_cfk_6 : ∀ z ∈ pg_fk 6, pg_cfk 6 z = true := by decide +kernel
theorem pg_cfk_7 : ∀ z ∈ pg_fk 7, pg_cfk 7 z = true := by decide +kernel
theorem pg_cfk_8 : ∀ z ∈ pg_fk 8, pg_cfk 8 z = true := by decide +kernel
theorem pg_cfk_9 : ∀ z ∈ pg_fk 9, pg_cfk 9 z = true := by decide +kernel
theorem pg_cfk_10 : ∀ z ∈ pg_fk 10, pg_cfk 10 z = true := by decide +kernel
theorem pg_cfk_11 : ∀ z ∈ pg_fk 11, pg_cfk 11 z = true := by decide +kernel
theorem pg_cfk_12 : ∀ z ∈ pg_fk 12, pg_cfk 12 z = true := by decide +kernel
theorem pg_cfk_13 : ∀ z ∈ pg_fk 13, pg_cfk 13 z = true := by decide +kernel
theorem pg_cfk_14 : ∀ z ∈ pg_fk 14, pg_cfk 14 z = true := by decide +kernel
theorem pg_cfk_15 : ∀ z ∈ pg_fk 15, pg_cfk 15 z = true := by decide +kernel
theorem pg_cfk_16 : ∀ z ∈ pg_fk 16, pg_cfk 16 z = true := by decide +kernel
theorem pg_cfk_17 : ∀ z ∈ pg_fk 17, pg_cfk 17 z = true := by decide +kernel
theorem pg_cfk_18 : ∀ z ∈ pg_fk 18, pg_cfk 18 z = true := by decide +kernel
theorem pg_cfk_19 : ∀ z ∈ pg_fk 19, pg_cfk 19 z = true := by decide +kernel
theorem pg_cfk_20 : ∀ z ∈ pg_fk 20, pg_cfk 20 z = true := by decide +kernel
theorem pg_cfk_ok : ∀ oc ∈ List.range 21, ∀ z ∈ pg_fk oc, pg_cfk oc z = true := by
  have h : ∀ oc ∈ [0, 1, 2, 3, 4, 5, 6, 7, 8, 9, 10, 11, 12, 13, 14, 15, 16, 17, 18, 19, 20], ∀ z ∈ pg_fk oc, pg_cfk oc z = true := by
    simp only [List.forall_mem_cons]
    exact ⟨pg_cfk_0, pg_cfk_1, pg_cfk_2, pg_cfk_3, pg_cfk_4, pg_cfk_5, pg_cfk_6, pg_cfk_7, pg_cfk_8, pg_cfk_9, pg_cfk_10, pg_cfk_11, pg_cfk_12, pg_cfk_13, pg_cfk_14, pg_cfk_15, pg_cfk_16, pg_cfk_17, pg_cfk_18, pg_cfk_19, pg_cfk_20, fun _ h => absurd h List.not_mem_nil⟩
  exact h
def pg_cmk (oc : Nat) (z : Nat × Nat × Nat) : Bool := pg_okw z.2.2 (.methodLink (pg_cn oc) z.1 (pg_mn z.2.1))
theorem pg_cmk_0 : ∀ z ∈ pg_mk 0, pg_cmk 0 z = true := by decide +kernel
theorem pg_cmk_1 : ∀ z ∈ pg_mk 1, pg_cmk 1 z = true := by decide +kernel
theorem pg_cmk_2 : ∀ z ∈ pg_mk 2, pg_cmk 2 z = true := by decide +kernel
theorem pg_cmk_3 : ∀ z ∈ pg_mk 3, pg_cmk 3 z = true := by decide +kernel
theorem pg_cmk_4 : ∀ z ∈ pg_mk 4, pg_cmk 4 z = true := by decide +kernel
theorem pg_cmk_5 : ∀ z ∈ pg_mk 5, pg_cmk 5 z = true := by decide +kernel
theorem pg_cmk_6 : ∀ z ∈ pg_mk 6, pg_cmk 6 z = true := by decide +kernel
theorem pg_cmk_7 : ∀ z ∈ pg_mk 7, pg_cmk 7 z = true := by decide +kernel
theorem pg_cmk_8 : ∀ z ∈ pg_mk 8, pg_cmk 8 z = true := by decide +kernel
theorem pg_cmk_9 : ∀ z ∈ pg_mk 9, pg_cmk 9 z = true := by decide +kernel
theorem pg_cmk_10 : ∀ z ∈ pg_mk 10, pg_cmk 10 z = true := by decide +kernel
theorem pg_cmk_11 : ∀ z ∈ pg_mk 11, pg_cmk 11 z = true := by decide +kernel
theorem pg_cmk_12 : ∀ z ∈ pg_mk 12, pg_cmk 12 z = true := by decide +kernel
theorem pg_cmk_13 : ∀ z ∈ pg_mk 13, pg_cmk 13 z = true := by decide +kernel
theorem pg_cmk_14 : ∀ z ∈ pg_mk 14, pg_cmk 14 z = true := by decide +kernel
theorem pg_cmk_15 : ∀ z ∈ pg_mk 15, pg_cmk 15 z = true := by decide +kernel
theorem pg_cmk_16 : ∀ z ∈ pg_mk 16, pg_cmk 16 z = true := by decide +kernel
theorem pg_cmk_17 : ∀ z ∈ pg_mk 17, pg_cmk 17 z = true := by decide +kernel
theorem pg_cmk_18 : ∀ z ∈ pg_mk 18, pg_cmk 18 z = true := by decide +kernel
theorem pg_cmk_19 : ∀ z ∈ pg_mk 19, pg_cmk 19 z = true := by decide +kernel
theorem pg_cmk_20 : ∀ z ∈ pg_mk 20, pg_cmk 20 z = true := by decide +kernel
theorem pg_cmk_ok : ∀ oc ∈ List.range 21, ∀ z ∈ pg_mk oc, pg_cmk oc z = true := by
  have h : ∀ oc ∈ [0, 1, 2, 3, 4, 5, 6, 7, 8, 9, 10, 11, 12, 13, 14, 15, 16, 17, 18, 19, 20], ∀ z ∈ pg_mk oc, pg_cmk oc z = true := by
    simp only [List.forall_mem_cons]
    exact ⟨pg_cmk_0, pg_cmk_1, pg_cmk_2, pg_cmk_3, pg_cmk_4, pg_cmk_5, pg_cmk_6, pg_cmk_7, pg_cmk_8, pg_cmk_9, pg_cmk_10, pg_cmk_11, pg_cmk_12, pg_cmk_13, pg_cmk_14, pg_cmk_15, pg_cmk_16, pg_cmk_17, pg_cmk_18, pg_cmk_19, pg_cmk_20, fun _ h => absurd h List.not_mem_nil⟩
  exact h
def pg_cmh (oc : Nat) (z : Nat × Nat × Nat) : Bool := pg_okn z.2.2 (.methodLinkNest (pg_cn oc) z.1 (pg_mn z.2.1) "LinkHouse")
theorem pg_cmh_0 : ∀ z ∈ pg_mh 0, pg_cmh 0 z = true := by decide +kernel
theorem pg_cmh_1 : ∀ z ∈ pg_mh 1, pg_cmh 1 z = true := by decide +kernel
theorem pg_cmh_2 : ∀ z ∈ pg_mh 2, pg_cmh 2 z = true := by decide +kernel
theorem pg_cmh_3 : ∀ z ∈ pg_mh 3, pg_cmh 3 z = true := by decide +kernel
theorem pg_cmh_4 : ∀ z ∈ pg_mh 4, pg_cmh 4 z = true := by decide +kernel
theorem pg_cmh_5 : ∀ z ∈ pg_mh 5, pg_cmh 5 z = true := by decide +kernel
theorem pg_cmh_6 : ∀ z ∈ pg_mh 6, pg_cmh 6 z = true := by decide +kernel
theorem pg_cmh_7 : ∀ z ∈ pg_mh 7, pg_cmh 7 z = true := by decide +kernel
theorem pg_cmh_8 : ∀ z ∈ pg_mh 8, pg_cmh 8 z = true := by decide +kernel
theorem pg_cmh_9 : ∀ z ∈ pg_mh 9, pg_cmh 9 z = true := by decide +kernel
theorem pg_cmh_10 : ∀ z ∈ pg_mh 10, pg_cmh 10 z = true := by decide +kernel
theorem pg_cmh_11 : ∀ z ∈ pg_mh 11, pg_cmh 11 z = true := by decide +kernel
theorem pg_cmh_12 : ∀ z ∈ pg_mh 12, pg_cmh 12 z = true := by decide +kernel
theorem pg_cmh_13 : ∀ z ∈ pg_mh 13, pg_cmh 13 z = true := by decide +kernel
theorem pg_cmh_14 : ∀ z ∈ pg_mh 14, pg_cmh 14 z = true := by decide +kernel
theorem pg_cmh_15 : ∀ z ∈ pg_mh 15, pg_cmh 15 z = true := by decide +kernel
theorem pg_cmh_16 : ∀ z ∈ pg_mh 16, pg_cmh 16 z = true := by decide +kernel
theorem pg_cmh_17 : ∀ z ∈ pg_mh 17, pg_cmh 17 z = true := by decide +kernel
theorem pg_cmh_18 : ∀ z ∈ pg_mh 18, pg_cmh 18 z = true := by decide +kernel
theorem pg_cmh_19 : ∀ z ∈ pg_mh 19, pg_cmh 19 z = true := by decide +kernel
theorem pg_cmh_20 : ∀ z ∈ pg_mh 20, pg_cmh 20 z = true := by decide +kernel
theorem pg_cmh_ok : ∀ oc ∈ List.range 21, ∀ z ∈ pg_mh oc, pg_cmh oc z = true := by
  have h : ∀ oc ∈ [0, 1, 2, 3, 4, 5, 6, 7, 8, 9, 10, 11, 12, 13, 14, 15, 16, 17, 18, 19, 20], ∀ z ∈ pg_mh oc, pg_cmh oc z = true := by
    simp only [List.forall_mem_cons]
    exact ⟨pg_cmh_0, pg_cmh_1, pg_cmh_2, pg_cmh_3, pg_cmh_4, pg_cmh_5, pg_cmh_6, pg_cmh_7, pg_cmh_8, pg_cmh_9, pg_cmh_10, pg_cmh_11, pg_cmh_12, pg_cmh_13, pg_cmh_14, pg_cmh_15, pg_cmh_16, pg_cmh_17, pg_cmh_18, pg_cmh_19, pg_cmh_20, fun _ h => absurd h List.not_mem_nil⟩
  exact h
def pg_cnw (oc : Nat) (z : Nat × Nat × Nat) : Bool := decide (z.2.1 < 16) && pg_okw z.2.2 (.classLink (pg_cn oc) z.1 (pg_cn z.2.1))
theorem pg_cnw_0 : ∀ z ∈ pg_nw 0, pg_cnw 0 z = true := by decide +kernel
theorem pg_cnw_1 : ∀ z ∈ pg_nw 1, pg_cnw 1 z = true := by decide +kernel
theorem pg_cnw_2 : ∀ z ∈ pg_nw 2, pg_cnw 2 z = true := by decide +kernel
theorem pg_cnw_3 : ∀ z ∈ pg_nw 3, pg_cnw 3 z = true := by decide +kernel
theorem pg_cnw_4 : ∀ z ∈ pg_nw 4, pg_cnw 4 z = true := by decide +kernel
theorem pg_cnw_5 : ∀ z ∈ pg_nw 5, pg_cnw 5 z = true := by decide +kernel
theorem pg_cnw_6 : ∀ z ∈ pg_nw 6, pg_cnw 6 z = true := by decide +kernel
theorem pg_cnw_7 : ∀ z ∈ pg_nw 7, pg_cnw 7 z = true := by decide +kernel
theorem pg_cnw_8 : ∀ z ∈ pg_nw 8, pg_cnw 8 z = true := by decide +kernel
theorem pg_cnw_9 : ∀ z ∈ pg_nw 9, pg_cnw 9 z = true := by decide +kernel
theorem pg_cnw_10 : ∀ z ∈ pg_nw 10, pg_cnw 10 z = true := by decide +kernel
theorem pg_cnw_11 : ∀ z ∈ pg_nw 11, pg_cnw 11 z = true := by decide +kernel
theorem pg_cnw_12 : ∀ z ∈ pg_nw 12, pg_cnw 12 z = true := by decide +kernel
theorem pg_cnw_13 : ∀ z ∈ pg_nw 13, pg_cnw 13 z = true := by decide +kernel
theorem pg_cnw_14 : ∀ z ∈ pg_nw 14, pg_cnw 14 z = true := by decide +kernel
theorem pg_cnw_15 : ∀ z ∈ pg_nw 15, pg_cnw 15 z = true := by decide +kernel
theorem pg_cnw_16 : ∀ z ∈ pg_nw 16, pg_cnw 16 z = true := by decide +kernel
theorem pg_cnw_17 : ∀ z ∈ pg_nw 17, pg_cnw 17 z = true := by decide +kernel
theorem pg_cnw_18 : ∀ z ∈ pg_nw 18, pg_cnw 18 z = true := by decide +kernel
theorem pg_cnw_19 : ∀ z ∈ pg_nw 19, pg_cnw 19 z = true := by decide +kernel
theorem pg_cnw_20 : ∀ z ∈ pg_nw 20, pg_cnw 20 z = true := by decide +kernel
theorem pg_cnw_ok : ∀ oc ∈ List.range 21, ∀ z ∈ pg_nw oc, pg_cnw oc z = true := by
  have h : ∀ oc ∈ [0, 1, 2, 3, 4, 5, 6, 7, 8, 9, 10, 11, 12, 13, 14, 15, 16, 17, 18, 19, 20], ∀ z ∈ pg_nw oc, pg_cnw oc z = true := by
    simp only [List.forall_mem_cons]
    exact ⟨pg_cnw_0, pg_cnw_1, pg_cnw_2, pg_cnw_3, pg_cnw_4, pg_cnw_5, pg_cnw_6, pg_cnw_7, pg_cnw_8, pg_cnw_9, pg_cnw_10, pg_cnw_11, pg_cnw_12, pg_cnw_13, pg_cnw_14, pg_cnw_15, pg_cnw_16, pg_cnw_17, pg_cnw_18, pg_cnw_19, pg_cnw_20, fun _ h => absurd h List.not_mem_nil⟩
  exact h
def pg_caq (oc : Nat) (z : Nat × Nat × Nat) : Bool := match pg_ty[z.2.1]? with
    | some (.object C) => decide (C ∈ pg_Ao) && pg_okw z.2.2 (.classLink (pg_cn oc) z.1 C)
    | _ => false
theorem pg_caq_0 : ∀ z ∈ pg_aq 0, pg_caq 0 z = true := by decide +kernel
theorem pg_caq_1 : ∀ z ∈ pg_aq 1, pg_caq 1 z = true := by decide +kernel
theorem pg_caq_2 : ∀ z ∈ pg_aq 2, pg_caq 2 z = true := by decide +kernel
theorem pg_caq_3 : ∀ z ∈ pg_aq 3, pg_caq 3 z = true := by decide +kernel
theorem pg_caq_4 : ∀ z ∈ pg_aq 4, pg_caq 4 z = true := by decide +kernel
theorem pg_caq_5 : ∀ z ∈ pg_aq 5, pg_caq 5 z = true := by decide +kernel
theorem pg_caq_6 : ∀ z ∈ pg_aq 6, pg_caq 6 z = true := by decide +kernel
theorem pg_caq_7 : ∀ z ∈ pg_aq 7, pg_caq 7 z = true := by decide +kernel
theorem pg_caq_8 : ∀ z ∈ pg_aq 8, pg_caq 8 z = true := by decide +kernel
theorem pg_caq_9 : ∀ z ∈ pg_aq 9, pg_caq 9 z = true := by decide +kernel
theorem pg_caq_10 : ∀ z ∈ pg_aq 10, pg_caq 10 z = true := by decide +kernel
theorem pg_caq_11 : ∀ z ∈ pg_aq 11, pg_caq 11 z = true := by decide +kernel
theorem pg_caq_12 : ∀ z ∈ pg_aq 12, pg_caq 12 z = true := by decide +kernel
theorem pg_caq_13 : ∀ z ∈ pg_aq 13, pg_caq 13 z = true := by decide +kernel
theorem pg_caq_14 : ∀ z ∈ pg_aq 14, pg_caq 14 z = true := by decide +kernel
theorem pg_caq_15 : ∀ z ∈ pg_aq 15, pg_caq 15 z = true := by decide +kernel
theorem pg_caq_16 : ∀ z ∈ pg_aq 16, pg_caq 16 z = true := by decide +kernel
theorem pg_caq_17 : ∀ z ∈ pg_aq 17, pg_caq 17 z = true := by decide +kernel
theorem pg_caq_18 : ∀ z ∈ pg_aq 18, pg_caq 18 z = true := by decide +kernel
theorem pg_caq_19 : ∀ z ∈ pg_aq 19, pg_caq 19 z = true := by decide +kernel
theorem pg_caq_20 : ∀ z ∈ pg_aq 20, pg_caq 20 z = true := by decide +kernel
theorem pg_caq_ok : ∀ oc ∈ List.range 21, ∀ z ∈ pg_aq oc, pg_caq oc z = true := by
  have h : ∀ oc ∈ [0, 1, 2, 3, 4, 5, 6, 7, 8, 9, 10, 11, 12, 13, 14, 15, 16, 17, 18, 19, 20], ∀ z ∈ pg_aq oc, pg_caq oc z = true := by
    simp only [List.forall_mem_cons]
    exact ⟨pg_caq_0, pg_caq_1, pg_caq_2, pg_caq_3, pg_caq_4, pg_caq_5, pg_caq_6, pg_caq_7, pg_caq_8, pg_caq_9, pg_caq_10, pg_caq_11, pg_caq_12, pg_caq_13, pg_caq_14, pg_caq_15, pg_caq_16, pg_caq_17, pg_caq_18, pg_caq_19, pg_caq_20, fun _ h => absurd h List.not_mem_nil⟩
  exact h
def pg_cli (oc : Nat) (z : Nat × Nat × Nat) : Bool := match pg_ki[z.2.1]? with
    | some v => pg_okw z.2.2 (.constant (pg_cn oc) z.1 v)
    | none => false
theorem pg_cli_0 : ∀ z ∈ pg_li 0, pg_cli 0 z = true := by decide +kernel
theorem pg_cli_1 : ∀ z ∈ pg_li 1, pg_cli 1 z = true := by decide +kernel
theorem pg_cli_2 : ∀ z ∈ pg_li 2, pg_cli 2 z = true := by decide +kernel
theorem pg_cli_3 : ∀ z ∈ pg_li 3, pg_cli 3 z = true := by decide +kernel
theorem pg_cli_4 : ∀ z ∈ pg_li 4, pg_cli 4 z = true := by decide +kernel
theorem pg_cli_5 : ∀ z ∈ pg_li 5, pg_cli 5 z = true := by decide +kernel
theorem pg_cli_6 : ∀ z ∈ pg_li 6, pg_cli 6 z = true := by decide +kernel
theorem pg_cli_7 : ∀ z ∈ pg_li 7, pg_cli 7 z = true := by decide +kernel
theorem pg_cli_8 : ∀ z ∈ pg_li 8, pg_cli 8 z = true := by decide +kernel
theorem pg_cli_9 : ∀ z ∈ pg_li 9, pg_cli 9 z = true := by decide +kernel
theorem pg_cli_10 : ∀ z ∈ pg_li 10, pg_cli 10 z = true := by decide +kernel
theorem pg_cli_11 : ∀ z ∈ pg_li 11, pg_cli 11 z = true := by decide +kernel
theorem pg_cli_12 : ∀ z ∈ pg_li 12, pg_cli 12 z = true := by decide +kernel
theorem pg_cli_13 : ∀ z ∈ pg_li 13, pg_cli 13 z = true := by decide +kernel
theorem pg_cli_14 : ∀ z ∈ pg_li 14, pg_cli 14 z = true := by decide +kernel
theorem pg_cli_15 : ∀ z ∈ pg_li 15, pg_cli 15 z = true := by decide +kernel
theorem pg_cli_16 : ∀ z ∈ pg_li 16, pg_cli 16 z = true := by decide +kernel
theorem pg_cli_17 : ∀ z ∈ pg_li 17, pg_cli 17 z = true := by decide +kernel
theorem pg_cli_18 : ∀ z ∈ pg_li 18, pg_cli 18 z = true := by decide +kernel
theorem pg_cli_19 : ∀ z ∈ pg_li 19, pg_cli 19 z = true := by decide +kernel
theorem pg_cli_20 : ∀ z ∈ pg_li 20, pg_cli 20 z = true := by decide +kernel
theorem pg_cli_ok : ∀ oc ∈ List.range 21, ∀ z ∈ pg_li oc, pg_cli oc z = true := by
  have h : ∀ oc ∈ [0, 1, 2, 3, 4, 5, 6, 7, 8, 9, 10, 11, 12, 13, 14, 15, 16, 17, 18, 19, 20], ∀ z ∈ pg_li oc, pg_cli oc z = true := by
    simp only [List.forall_mem_cons]
    exact ⟨pg_cli_0, pg_cli_1, pg_cli_2, pg_cli_3, pg_cli_4, pg_cli_5, pg_cli_6, pg_cli_7, pg_cli_8, pg_cli_9, pg_cli_10, pg_cli_11, pg_cli_12, pg_cli_13, pg_cli_14, pg_cli_15, pg_cli_16, pg_cli_17, pg_cli_18, pg_cli_19, pg_cli_20, fun _ h => absurd h List.not_mem_nil⟩
  exact h
def pg_cll (oc : Nat) (z : Nat × Nat × Nat) : Bool := match pg_kl[z.2.1]? with
    | some v => pg_okw z.2.2 (.constantLong (pg_cn oc) z.1 v)
    | none => false
theorem pg_cll_0 : ∀ z ∈ pg_ll 0, pg_cll 0 z = true := by decide +kernel
theorem pg_cll_1 : ∀ z ∈ pg_ll 1, pg_cll 1 z = true := by decide +kernel
theorem pg_cll_2 : ∀ z ∈ pg_ll 2, pg_cll 2 z = true := by decide +kernel
theorem pg_cll_3 : ∀ z ∈ pg_ll 3, pg_cll 3 z = true := by decide +kernel
theorem pg_cll_4 : ∀ z ∈ pg_ll 4, pg_cll 4 z = true := by decide +kernel
theorem pg_cll_5 : ∀ z ∈ pg_ll 5, pg_cll 5 z = true := by decide +kernel
theorem pg_cll_6 : ∀ z ∈ pg_ll 6, pg_cll 6 z = true := by decide +kernel
theorem pg_cll_7 : ∀ z ∈ pg_ll 7, pg_cll 7 z = true := by decide +kernel
theorem pg_cll_8 : ∀ z ∈ pg_ll 8, pg_cll 8 z = true := by decide +kernel
theorem pg_cll_9 : ∀ z ∈ pg_ll 9, pg_cll 9 z = true := by decide +kernel
theorem pg_cll_10 : ∀ z ∈ pg_ll 10, pg_cll 10 z = true := by decide +kernel
theorem pg_cll_11 : ∀ z ∈ pg_ll 11, pg_cll 11 z = true := by decide +kernel
theorem pg_cll_12 : ∀ z ∈ pg_ll 12, pg_cll 12 z = true := by decide +kernel
theorem pg_cll_13 : ∀ z ∈ pg_ll 13, pg_cll 13 z = true := by decide +kernel
theorem pg_cll_14 : ∀ z ∈ pg_ll 14, pg_cll 14 z = true := by decide +kernel
theorem pg_cll_15 : ∀ z ∈ pg_ll 15, pg_cll 15 z = true := by decide +kernel
theorem pg_cll_16 : ∀ z ∈ pg_ll 16, pg_cll 16 z = true := by decide +kernel
theorem pg_cll_17 : ∀ z ∈ pg_ll 17, pg_cll 17 z = true := by decide +kernel
theorem pg_cll_18 : ∀ z ∈ pg_ll 18, pg_cll 18 z = true := by decide +kernel
theorem pg_cll_19 : ∀ z ∈ pg_ll 19, pg_cll 19 z = true := by decide +kernel
theorem pg_cll_20 : ∀ z ∈ pg_ll 20, pg_cll 20 z = true := by decide +kernel
theorem pg_cll_ok : ∀ oc ∈ List.range 21, ∀ z ∈ pg_ll oc, pg_cll oc z = true := by
  have h : ∀ oc ∈ [0, 1, 2, 3, 4, 5, 6, 7, 8, 9, 10, 11, 12, 13, 14, 15, 16, 17, 18, 19, 20], ∀ z ∈ pg_ll oc, pg_cll oc z = true := by
    simp only [List.forall_mem_cons]
    exact ⟨pg_cll_0, pg_cll_1, pg_cll_2, pg_cll_3, pg_cll_4, pg_cll_5, pg_cll_6, pg_cll_7, pg_cll_8, pg_cll_9, pg_cll_10, pg_cll_11, pg_cll_12, pg_cll_13, pg_cll_14, pg_cll_15, pg_cll_16, pg_cll_17, pg_cll_18, pg_cll_19, pg_cll_20, fun _ h => absurd h List.not_mem_nil⟩
  exact h
def pg_cgs (oc : Nat) (z : Nat × Nat × Nat) : Bool := match pg_sf[z.2.1 - 1]? with
    | some f => decide (f.2.2.2 = z.2.1) && pg_okw z.2.2 (.fieldLink (pg_cn oc) z.1 f.1 f.2.1 f.2.2.1)
    | none => false
theorem pg_cgs_0 : ∀ z ∈ pg_gs 0, pg_cgs 0 z = true := by decide +kernel
theorem pg_cgs_1 : ∀ z ∈ pg_gs 1, pg_cgs 1 z = true := by decide +kernel
theorem pg_cgs_2 : ∀ z ∈ pg_gs 2, pg_cgs 2 z = true := by decide +kernel
theorem pg_cgs_3 : ∀ z ∈ pg_gs 3, pg_cgs 3 z = true := by decide +kernel
theorem pg_cgs_4 : ∀ z ∈ pg_gs 4, pg_cgs 4 z = true := by decide +kernel
theorem pg_cgs_5 : ∀ z ∈ pg_gs 5, pg_cgs 5 z = true := by decide +kernel
theorem pg_cgs_6 : ∀ z ∈ pg_gs 6, pg_cgs 6 z = true := by decide +kernel
theorem pg_cgs_7 : ∀ z ∈ pg_gs 7, pg_cgs 7 z = true := by decide +kernel
theorem pg_cgs_8 : ∀ z ∈ pg_gs 8, pg_cgs 8 z = true := by decide +kernel
theorem pg_cgs_9 : ∀ z ∈ pg_gs 9, pg_cgs 9 z = true := by decide +kernel
theorem pg_cgs_10 : ∀ z ∈ pg_gs 10, pg_cgs 10 z = true := by decide +kernel
theorem pg_cgs_11 : ∀ z ∈ pg_gs 11, pg_cgs 11 z = true := by decide +kernel
theorem pg_cgs_12 : ∀ z ∈ pg_gs 12, pg_cgs 12 z = true := by decide +kernel
theorem pg_cgs_13 : ∀ z ∈ pg_gs 13, pg_cgs 13 z = true := by decide +kernel
theorem pg_cgs_14 : ∀ z ∈ pg_gs 14, pg_cgs 14 z = true := by decide +kernel
theorem pg_cgs_15 : ∀ z ∈ pg_gs 15, pg_cgs 15 z = true := by decide +kernel
theorem pg_cgs_16 : ∀ z ∈ pg_gs 16, pg_cgs 16 z = true := by decide +kernel
theorem pg_cgs_17 : ∀ z ∈ pg_gs 17, pg_cgs 17 z = true := by decide +kernel
theorem pg_cgs_18 : ∀ z ∈ pg_gs 18, pg_cgs 18 z = true := by decide +kernel
theorem pg_cgs_19 : ∀ z ∈ pg_gs 19, pg_cgs 19 z = true := by decide +kernel
theorem pg_cgs_20 : ∀ z ∈ pg_gs 20, pg_cgs 20 z = true := by decide +kernel
theorem pg_cgs_ok : ∀ oc ∈ List.range 21, ∀ z ∈ pg_gs oc, pg_cgs oc z = true := by
  have h : ∀ oc ∈ [0, 1, 2, 3, 4, 5, 6, 7, 8, 9, 10, 11, 12, 13, 14, 15, 16, 17, 18, 19, 20], ∀ z ∈ pg_gs oc, pg_cgs oc z = true := by
    simp only [List.forall_mem_cons]
    exact ⟨pg_cgs_0, pg_cgs_1, pg_cgs_2, pg_cgs_3, pg_cgs_4, pg_cgs_5, pg_cgs_6, pg_cgs_7, pg_cgs_8, pg_cgs_9, pg_cgs_10, pg_cgs_11, pg_cgs_12, pg_cgs_13, pg_cgs_14, pg_cgs_15, pg_cgs_16, pg_cgs_17, pg_cgs_18, pg_cgs_19, pg_cgs_20, fun _ h => absurd h List.not_mem_nil⟩
  exact h
def pg_cgh (oc : Nat) (z : Nat × Nat × Nat) : Bool := match pg_sf[z.2.1 - 1]? with
    | some f => decide (f.2.2.2 = z.2.1) && pg_okn z.2.2 (.fieldLinkNest (pg_cn oc) z.1 f.1 f.2.1 f.2.2.1 "LinkHouse")
    | none => false
theorem pg_cgh_0 : ∀ z ∈ pg_gh 0, pg_cgh 0 z = true := by decide +kernel
theorem pg_cgh_1 : ∀ z ∈ pg_gh 1, pg_cgh 1 z = true := by decide +kernel
theorem pg_cgh_2 : ∀ z ∈ pg_gh 2, pg_cgh 2 z = true := by decide +kernel
theorem pg_cgh_3 : ∀ z ∈ pg_gh 3, pg_cgh 3 z = true := by decide +kernel
theorem pg_cgh_4 : ∀ z ∈ pg_gh 4, pg_cgh 4 z = true := by decide +kernel
theorem pg_cgh_5 : ∀ z ∈ pg_gh 5, pg_cgh 5 z = true := by decide +kernel
theorem pg_cgh_6 : ∀ z ∈ pg_gh 6, pg_cgh 6 z = true := by decide +kernel
theorem pg_cgh_7 : ∀ z ∈ pg_gh 7, pg_cgh 7 z = true := by decide +kernel
theorem pg_cgh_8 : ∀ z ∈ pg_gh 8, pg_cgh 8 z = true := by decide +kernel
theorem pg_cgh_9 : ∀ z ∈ pg_gh 9, pg_cgh 9 z = true := by decide +kernel
theorem pg_cgh_10 : ∀ z ∈ pg_gh 10, pg_cgh 10 z = true := by decide +kernel
theorem pg_cgh_11 : ∀ z ∈ pg_gh 11, pg_cgh 11 z = true := by decide +kernel
theorem pg_cgh_12 : ∀ z ∈ pg_gh 12, pg_cgh 12 z = true := by decide +kernel
theorem pg_cgh_13 : ∀ z ∈ pg_gh 13, pg_cgh 13 z = true := by decide +kernel
theorem pg_cgh_14 : ∀ z ∈ pg_gh 14, pg_cgh 14 z = true := by decide +kernel
theorem pg_cgh_15 : ∀ z ∈ pg_gh 15, pg_cgh 15 z = true := by decide +kernel
theorem pg_cgh_16 : ∀ z ∈ pg_gh 16, pg_cgh 16 z = true := by decide +kernel
theorem pg_cgh_17 : ∀ z ∈ pg_gh 17, pg_cgh 17 z = true := by decide +kernel
theorem pg_cgh_18 : ∀ z ∈ pg_gh 18, pg_cgh 18 z = true := by decide +kernel
theorem pg_cgh_19 : ∀ z ∈ pg_gh 19, pg_cgh 19 z = true := by decide +kernel
theorem pg_cgh_20 : ∀ z ∈ pg_gh 20, pg_cgh 20 z = true := by decide +kernel
theorem pg_cgh_ok : ∀ oc ∈ List.range 21, ∀ z ∈ pg_gh oc, pg_cgh oc z = true := by
  have h : ∀ oc ∈ [0, 1, 2, 3, 4, 5, 6, 7, 8, 9, 10, 11, 12, 13, 14, 15, 16, 17, 18, 19, 20], ∀ z ∈ pg_gh oc, pg_cgh oc z = true := by
    simp only [List.forall_mem_cons]
    exact ⟨pg_cgh_0, pg_cgh_1, pg_cgh_2, pg_cgh_3, pg_cgh_4, pg_cgh_5, pg_cgh_6, pg_cgh_7, pg_cgh_8, pg_cgh_9, pg_cgh_10, pg_cgh_11, pg_cgh_12, pg_cgh_13, pg_cgh_14, pg_cgh_15, pg_cgh_16, pg_cgh_17, pg_cgh_18, pg_cgh_19, pg_cgh_20, fun _ h => absurd h List.not_mem_nil⟩
  exact h
end
section
/-! code: place, instruction, next place, what it names -/
def pg_L0 : List (Nat × Instr × Nat × Nat × Nat) := [
  (0, .aload_n 0, 1, 0, 0),
  (1, .invokespecial 3, 4, 9006, 0),
  (4, .aload_n 0, 5, 0, 0),
  (5, .new 9, 8, 10, 0),
  (8, .dup, 9, 0, 0),
  (9, .sipush 8192, 12, 0, 0),
  (12, .invokespecial 11, 15, 166, 1),
  (15, .putfield 14, 18, 0, 0),
  (18, .aload_n 0, 19, 0, 0),
  (19, .new 9, 22, 10, 0),
  (22, .dup, 23, 0, 0),
  (23, .ldc 18, 25, 0, 0),
  (25, .invokespecial 11, 28, 166, 1),
  (28, .putfield 19, 31, 0, 1),
  (31, .aload_n 0, 32, 0, 0),
  (32, .new 9, 35, 10, 0),
  (35, .dup, 36, 0, 0),
  (36, .ldc 18, 38, 0, 0),
  (38, .invokespecial 11, 41, 166, 1),
  (41, .putfield 22, 44, 0, 2),
  (44, .aload_n 0, 45, 0, 0),
  (45, .new 9, 48, 10, 0),
  (48, .dup, 49, 0, 0),
  (49, .ldc 18, 51, 0, 0),
  (51, .invokespecial 11, 54, 166, 1),
  (54, .putfield 25, 57, 0, 3),
  (57, .aload_n 0, 58, 0, 0),
  (58, .bipush 64, 60, 0, 0),
  (60, .anewarray 28, 63, 4, 0),
  (63, .putfield 30, 66, 0, 4),
  (66, .iconst 0, 67, 0, 0),
  (67, .istore_n 1, 68, 0, 0),
  (68, .iload_n 1, 69, 0, 0),
  (69, .aload_n 0, 70, 0, 0),
  (70, .getfield 30, 73, 0, 4),
  (73, .arraylength, 74, 0, 0),
  (74, .if_icmp .ge 34, 77, 108, 0),
  (77, .aload_n 0, 78, 0, 0),
  (78, .getfield 30, 81, 0, 4),
  (81, .iload_n 1, 82, 0, 0),
  (82, .new 28, 85, 7, 0),
  (85, .dup, 86, 0, 0),
  (86, .aload_n 0, 87, 0, 0),
  (87, .getfield 25, 90, 0, 3),
  (90, .iload_n 1, 91, 0, 0),
  (91, .bipush 8, 93, 0, 0),
  (93, .idiv, 94, 0, 0),
  (94, .iload_n 1, 95, 0, 0),
  (95, .bipush 8, 97, 0, 0),
  (97, .irem, 98, 0, 0),
  (98, .invokespecial 34, 101, 125, 3),
  (101, .aastore, 102, 0, 0),
  (102, .iinc 1 1, 105, 0, 0),
  (105, .goto (-37), 108, 68, 0),
  (108, .aload_n 0, 109, 0, 0),
  (109, .bipush 9, 111, 0, 0),
  (111, .newarray .int, 113, 1, 0),
  (113, .putfield 37, 116, 0, 5),
  (116, .aload_n 0, 117, 0, 0),
  (117, .sipush 8192, 120, 0, 0),
  (120, .newarray .int, 122, 1, 0),
  (122, .putfield 41, 125, 0, 7),
  (125, .aload_n 0, 126, 0, 0),
  (126, .new 44, 129, 6, 0),
  (129, .dup, 130, 0, 0),
  (130, .bipush 16, 132, 0, 0),
  (132, .invokespecial 46, 135, 121, 1),
  (135, .putfield 47, 138, 0, 8),
  (138, .aload_n 0, 139, 0, 0),
  (139, .new 44, 142, 6, 0),
  (142, .dup, 143, 0, 0),
  (143, .bipush 16, 145, 0, 0),
  (145, .invokespecial 46, 148, 121, 1),
  (148, .putfield 51, 151, 0, 9),
  (151, .aload_n 0, 152, 0, 0),
  (152, .new 54, 155, 5, 0),
  (155, .dup, 156, 0, 0),
  (156, .invokespecial 56, 159, 112, 0),
  (159, .putfield 57, 162, 0, 10),
  (162, .aload_n 0, 163, 0, 0),
  (163, .new 61, 166, 3, 0),
  (166, .dup, 167, 0, 0),
  (167, .aload_n 0, 168, 0, 0),
  (168, .getfield 30, 171, 0, 4),
  (171, .aload_n 0, 172, 0, 0),
  (172, .getfield 47, 175, 0, 8),
  (175, .aload_n 0, 176, 0, 0),
  (176, .getfield 51, 179, 0, 9),
  (179, .aload_n 0, 180, 0, 0),
  (180, .getfield 25, 183, 0, 3),
  (183, .invokespecial 63, 186, 71, 4),
  (186, .putfield 66, 189, 0, 11),
  (189, .aload_n 0, 190, 0, 0),
  (190, .new 70, 193, 9, 0),
  (193, .dup, 194, 0, 0),
  (194, .aload_n 0, 195, 0, 0),
  (195, .getfield 25, 198, 0, 3),
  (198, .invokespecial 72, 201, 160, 1),
  (201, .putfield 75, 204, 0, 12),
  (204, .aload_n 0, 205, 0, 0),
  (205, .new 79, 208, 2, 0),
  (208, .dup, 209, 0, 0),
  (209, .aload_n 0, 210, 0, 0),
  (210, .getfield 66, 213, 0, 11),
  (213, .aload_n 0, 214, 0, 0),
  (214, .getfield 75, 217, 0, 12),
  (217, .invokespecial 81, 220, 49, 2),
  (220, .putfield 84, 223, 0, 13),
  (223, .aload_n 0, 224, 0, 0),
  (224, .new 88, 227, 1, 0),
  (227, .dup, 228, 0, 0),
  (228, .aload_n 0, 229, 0, 0),
  (229, .getfield 66, 232, 0, 11),
  (232, .aload_n 0, 233, 0, 0),
  (233, .getfield 84, 236, 0, 13),
  (236, .aload_n 0, 237, 0, 0),
  (237, .getfield 75, 240, 0, 12),
  (240, .aload_n 0, 241, 0, 0),
  (241, .getfield 25, 244, 0, 3),
  (244, .invokespecial 90, 247, 39, 4),
  (247, .putfield 93, 250, 0, 14),
  (250, .aload_n 0, 251, 0, 0),
  (251, .new 97, 254, 11, 0),
  (254, .dup, 255, 0, 0),
  (255, .aload_n 0, 256, 0, 0),
  (256, .getfield 66, 259, 0, 11),
  (259, .aload_n 0, 260, 0, 0),
  (260, .getfield 84, 263, 0, 13),
  (263, .aload_n 0, 264, 0, 0),
  (264, .getfield 25, 267, 0, 3),
  (267, .invokespecial 99, 270, 182, 3),
  (270, .putfield 102, 273, 0, 15),
  (273, .aload_n 0, 274, 0, 0),
  (274, .new 106, 277, 4, 0),
  (277, .dup, 278, 0, 0),
  (278, .invokespecial 108, 281, 100, 0),
  (281, .putfield 109, 284, 0, 16),
  (284, .return_, 285, 0, 0)]
theorem pg_d0 : ∀ q ∈ pg_L0, decode prog_1_method_1_code q.1 = .ok (q.2.1, q.2.2.1 - q.1) := by decide +kernel
def pg_L1 : List (Nat × Instr × Nat × Nat × Nat) := [
  (0, .aload_n 0, 1, 0, 0),
  (1, .iload_n 1, 2, 0, 0),
  (2, .invokevirtual 150, 5, 2, 1),
  (5, .ireturn, 6, 0, 0)]
theorem pg_d1 : ∀ q ∈ pg_L1, decode prog_1_method_5_code q.1 = .ok (q.2.1, q.2.2.1 - q.1) := by decide +kernel
def pg_L2 : List (Nat × Instr × Nat × Nat × Nat) := [
  (0, .aload_n 0, 1, 0, 0),
  (1, .getfield 66, 4, 0, 11),
  (4, .iload_n 1, 5, 0, 0),
  (5, .invokevirtual 356, 8, 72, 1),
  (8, .istore_n 2, 9, 0, 0),
  (9, .iload_n 2, 10, 0, 0),
  (10, .ifCond .ne 26, 13, 36, 0),
  (13, .aload_n 0, 14, 0, 0),
  (14, .getfield 84, 17, 0, 13),
  (17, .invokevirtual 359, 20, 50, 0),
  (20, .aload_n 0, 21, 0, 0),
  (21, .getfield 84, 24, 0, 13),
  (24, .invokevirtual 362, 27, 68, 0),
  (27, .ifCond .eq 7, 30, 34, 0),
  (30, .iconst 3, 31, 0, 0),
  (31, .goto 4, 34, 35, 0),
  (34, .iconst 0, 35, 0, 0),
  (35, .istore_n 2, 36, 0, 0),
  (36, .iload_n 2, 37, 0, 0),
  (37, .ifCond .ne 26, 40, 63, 0),
  (40, .aload_n 0, 41, 0, 0),
  (41, .getfield 93, 44, 0, 14),
  (44, .invokevirtual 365, 47, 40, 0),
  (47, .aload_n 0, 48, 0, 0),
  (48, .getfield 93, 51, 0, 14),
  (51, .invokevirtual 368, 54, 44, 0),
  (54, .ifCond .eq 7, 57, 61, 0),
  (57, .iconst 0, 58, 0, 0),
  (58, .goto 4, 61, 62, 0),
  (61, .iconst 4, 62, 0, 0),
  (62, .istore_n 2, 63, 0, 0),
  (63, .aload_n 0, 64, 0, 0),
  (64, .getfield 66, 67, 0, 11),
  (67, .iload_n 2, 68, 0, 0),
  (68, .putfield 190, 71, 3, 18),
  (71, .iload_n 2, 72, 0, 0),
  (72, .ifCond .ne 41, 75, 113, 0),
  (75, .aload_n 0, 76, 0, 0),
  (76, .getfield 19, 79, 0, 1),
  (79, .invokevirtual 142, 82, 168, 0),
  (82, .aload_n 0, 83, 0, 0),
  (83, .getfield 19, 86, 0, 1),
  (86, .aload_n 0, 87, 0, 0),
  (87, .getfield 93, 90, 0, 14),
  (90, .getfield 195, 93, 1, 4),
  (93, .getfield 371, 96, 10, 0),
  (96, .iconst 0, 97, 0, 0),
  (97, .aload_n 0, 98, 0, 0),
  (98, .getfield 93, 101, 0, 14),
  (101, .getfield 195, 104, 1, 4),
  (104, .getfield 120, 107, 10, 1),
  (107, .invokevirtual 374, 110, 174, 3),
  (110, .goto 29, 113, 139, 0),
  (113, .iload_n 2, 114, 0, 0),
  (114, .iconst 3, 115, 0, 0),
  (115, .if_icmp .ge 24, 118, 139, 0),
  (118, .aload_n 0, 119, 0, 0),
  (119, .getfield 19, 122, 0, 1),
  (122, .invokevirtual 142, 125, 168, 0),
  (125, .aload_n 0, 126, 0, 0),
  (126, .getfield 66, 129, 0, 11),
  (129, .getfield 378, 132, 3, 13),
  (132, .aload_n 0, 133, 0, 0),
  (133, .getfield 19, 136, 0, 1),
  (136, .invokevirtual 221, 139, 119, 1),
  (139, .iload_n 2, 140, 0, 0),
  (140, .ireturn, 141, 0, 0)]
theorem pg_d2 : ∀ q ∈ pg_L2, decode prog_1_method_27_code q.1 = .ok (q.2.1, q.2.2.1 - q.1) := by decide +kernel
def pg_L3 : List (Nat × Instr × Nat × Nat × Nat) := [
  (0, .lload_n 0, 1, 0, 0),
  (1, .lload_n 2, 2, 0, 0),
  (2, .ladd, 3, 0, 0),
  (3, .lconst 1, 4, 0, 0),
  (4, .lsub, 5, 0, 0),
  (5, .lload_n 2, 6, 0, 0),
  (6, .lneg, 7, 0, 0),
  (7, .land, 8, 0, 0),
  (8, .lreturn, 9, 0, 0)]
theorem pg_d3 : ∀ q ∈ pg_L3, decode prog_1_method_37_code q.1 = .ok (q.2.1, q.2.2.1 - q.1) := by decide +kernel
def pg_L4 : List (Nat × Instr × Nat × Nat × Nat) := [
  (0, .lload_n 0, 1, 0, 0),
  (1, .lconst 1, 2, 0, 0),
  (2, .lcmp, 3, 0, 0),
  (3, .ifCond .eq 11, 6, 14, 0),
  (6, .lload_n 0, 7, 0, 0),
  (7, .ldc2_w 425, 10, 0, 0),
  (10, .lcmp, 11, 0, 0),
  (11, .ifCond .ne 6, 14, 17, 0),
  (14, .bipush 8, 16, 0, 0),
  (16, .ireturn, 17, 0, 0),
  (17, .lload_n 0, 18, 0, 0),
  (18, .ldc2_w 427, 21, 1, 0),
  (21, .lcmp, 22, 0, 0),
  (22, .ifCond .eq 27, 25, 49, 0),
  (25, .lload_n 0, 26, 0, 0),
  (26, .ldc2_w 429, 29, 2, 0),
  (29, .lcmp, 30, 0, 0),
  (30, .ifCond .eq 19, 33, 49, 0),
  (33, .lload_n 0, 34, 0, 0),
  (34, .ldc2_w 431, 37, 3, 0),
  (37, .lcmp, 38, 0, 0),
  (38, .ifCond .lt 13, 41, 51, 0),
  (41, .lload_n 0, 42, 0, 0),
  (42, .ldc2_w 433, 45, 4, 0),
  (45, .lcmp, 46, 0, 0),
  (46, .ifCond .gt 5, 49, 51, 0),
  (49, .iconst 4, 50, 0, 0),
  (50, .ireturn, 51, 0, 0),
  (51, .lload_n 0, 52, 0, 0),
  (52, .ldc2_w 435, 55, 5, 0),
  (55, .lcmp, 56, 0, 0),
  (56, .ifCond .eq 27, 59, 83, 0),
  (59, .lload_n 0, 60, 0, 0),
  (60, .ldc2_w 437, 63, 6, 0),
  (63, .lcmp, 64, 0, 0),
  (64, .ifCond .eq 19, 67, 83, 0),
  (67, .lload_n 0, 68, 0, 0),
  (68, .ldc2_w 439, 71, 7, 0),
  (71, .lcmp, 72, 0, 0),
  (72, .ifCond .eq 11, 75, 83, 0),
  (75, .lload_n 0, 76, 0, 0),
  (76, .ldc2_w 441, 79, 8, 0),
  (79, .lcmp, 80, 0, 0),
  (80, .ifCond .ne 5, 83, 85, 0),
  (83, .iconst 4, 84, 0, 0),
  (84, .ireturn, 85, 0, 0),
  (85, .lload_n 0, 86, 0, 0),
  (86, .lconst 0, 87, 0, 0),
  (87, .lcmp, 88, 0, 0),
  (88, .ifCond .ne 7, 91, 95, 0),
  (91, .iconst 0, 92, 0, 0),
  (92, .goto 4, 95, 96, 0),
  (95, .iconst (-1), 96, 0, 0),
  (96, .ireturn, 97, 0, 0)]
theorem pg_d4 : ∀ q ∈ pg_L4, decode prog_1_method_39_code q.1 = .ok (q.2.1, q.2.2.1 - q.1) := by decide +kernel
def pg_L5 : List (Nat × Instr × Nat × Nat × Nat) := [
  (0, .aload_n 0, 1, 0, 0),
  (1, .iconst 0, 2, 0, 0),
  (2, .invokevirtual 150, 5, 2, 1),
  (5, .istore_n 1, 6, 0, 0),
  (6, .iload_n 1, 7, 0, 0),
  (7, .iconst 1, 8, 0, 0),
  (8, .if_icmp .ne 5, 11, 13, 0),
  (11, .iload_n 1, 12, 0, 0),
  (12, .ireturn, 13, 0, 0),
  (13, .aload_n 0, 14, 0, 0),
  (14, .getfield 102, 17, 0, 15),
  (17, .aload_n 0, 18, 0, 0),
  (18, .getfield 22, 21, 0, 2),
  (21, .invokevirtual 154, 24, 183, 1),
  (24, .ifCond .ne 5, 27, 29, 0),
  (27, .iconst (-1), 28, 0, 0),
  (28, .ireturn, 29, 0, 0),
  (29, .aload_n 0, 30, 0, 0),
  (30, .invokevirtual 158, 33, 6, 0),
  (33, .pop, 34, 0, 0),
  (34, .iload_n 1, 35, 0, 0),
  (35, .ireturn, 36, 0, 0)]
theorem pg_d5 : ∀ q ∈ pg_L5, decode prog_1_method_6_code q.1 = .ok (q.2.1, q.2.2.1 - q.1) := by decide +kernel
def pg_L6 : List (Nat × Instr × Nat × Nat × Nat) := [
  (0, .aload_n 0, 1, 0, 0),
  (1, .getfield 19, 4, 0, 1),
  (4, .astore_n 1, 5, 0, 0),
  (5, .aload_n 0, 6, 0, 0),
  (6, .aload_n 0, 7, 0, 0),
  (7, .getfield 22, 10, 0, 2),
  (10, .putfield 19, 13, 0, 1),
  (13, .aload_n 0, 14, 0, 0),
  (14, .aload_n 1, 15, 0, 0),
  (15, .putfield 22, 18, 0, 2),
  (18, .aload_n 0, 19, 0, 0),
  (19, .getfield 19, 22, 0, 1),
  (22, .getfield 120, 25, 10, 1),
  (25, .ireturn, 26, 0, 0)]
theorem pg_d6 : ∀ q ∈ pg_L6, decode prog_1_method_28_code q.1 = .ok (q.2.1, q.2.2.1 - q.1) := by decide +kernel
def pg_L7 : List (Nat × Instr × Nat × Nat × Nat) := [
  (0, .aload_n 0, 1, 0, 0),
  (1, .getfield 47, 4, 0, 8),
  (4, .iconst 0, 5, 0, 0),
  (5, .putfield 172, 8, 6, 2),
  (8, .aload_n 0, 9, 0, 0),
  (9, .getfield 51, 12, 0, 9),
  (12, .iconst 0, 13, 0, 0),
  (13, .putfield 172, 16, 6, 2),
  (16, .return_, 17, 0, 0)]
theorem pg_d7 : ∀ q ∈ pg_L7, decode prog_1_method_9_code q.1 = .ok (q.2.1, q.2.2.1 - q.1) := by decide +kernel
def pg_L8 : List (Nat × Instr × Nat × Nat × Nat) := [
  (0, .aload_n 0, 1, 0, 0),
  (1, .getfield 102, 4, 0, 15),
  (4, .aload_n 0, 5, 0, 0),
  (5, .getfield 22, 8, 0, 2),
  (8, .aload_n 0, 9, 0, 0),
  (9, .getfield 30, 12, 0, 4),
  (12, .invokevirtual 186, 15, 198, 2),
  (15, .ifCond .ne 5, 18, 20, 0),
  (18, .iconst (-1), 19, 0, 0),
  (19, .ireturn, 20, 0, 0),
  (20, .aload_n 0, 21, 0, 0),
  (21, .invokevirtual 158, 24, 6, 0),
  (24, .ireturn, 25, 0, 0)]
theorem pg_d8 : ∀ q ∈ pg_L8, decode prog_1_method_10_code q.1 = .ok (q.2.1, q.2.2.1 - q.1) := by decide +kernel
def pg_L9 : List (Nat × Instr × Nat × Nat × Nat) := [
  (0, .aload_n 0, 1, 0, 0),
  (1, .getfield 109, 4, 0, 16),
  (4, .lload_n 1, 5, 0, 0),
  (5, .invokevirtual 202, 8, 101, 1),
  (8, .ifCond .ge 7, 11, 15, 0),
  (11, .iconst (-1), 12, 0, 0),
  (12, .goto 11, 15, 23, 0),
  (15, .aload_n 0, 16, 0, 0),
  (16, .getfield 109, 19, 0, 16),
  (19, .lload_n 1, 20, 0, 0),
  (20, .invokevirtual 206, 23, 102, 1),
  (23, .istore_n 3, 24, 0, 0),
  (24, .iload_n 3, 25, 0, 0),
  (25, .ifCond .ge 7, 28, 32, 0),
  (28, .ldc2_w 209, 31, 9, 0),
  (31, .lreturn, 32, 0, 0),
  (32, .aload_n 0, 33, 0, 0),
  (33, .getfield 57, 36, 0, 10),
  (36, .aload_n 0, 37, 0, 0),
  (37, .getfield 109, 40, 0, 16),
  (40, .getfield 211, 43, 4, 0),
  (43, .aload_n 0, 44, 0, 0),
  (44, .getfield 109, 47, 0, 16),
  (47, .iload_n 3, 48, 0, 0),
  (48, .invokevirtual 214, 51, 105, 1),
  (51, .invokevirtual 217, 54, 117, 2),
  (54, .aload_n 0, 55, 0, 0),
  (55, .getfield 19, 58, 0, 1),
  (58, .invokevirtual 142, 61, 168, 0),
  (61, .aload_n 0, 62, 0, 0),
  (62, .getfield 57, 65, 0, 10),
  (65, .aload_n 0, 66, 0, 0),
  (66, .getfield 19, 69, 0, 1),
  (69, .invokevirtual 221, 72, 119, 1),
  (72, .lload_n 1, 73, 0, 0),
  (73, .aload_n 0, 74, 0, 0),
  (74, .getfield 109, 77, 0, 16),
  (77, .iload_n 3, 78, 0, 0),
  (78, .invokevirtual 224, 81, 103, 1),
  (81, .lsub, 82, 0, 0),
  (82, .lreturn, 83, 0, 0)]
theorem pg_d9 : ∀ q ∈ pg_L9, decode prog_1_method_12_code q.1 = .ok (q.2.1, q.2.2.1 - q.1) := by decide +kernel
def pg_L10 : List (Nat × Instr × Nat × Nat × Nat) := [
  (0, .lload_n 0, 1, 0, 0),
  (1, .ldc2_w 421, 4, 10, 0),
  (4, .lxor, 5, 0, 0),
  (5, .lload_n 2, 6, 0, 0),
  (6, .ldc2_w 421, 9, 10, 0),
  (9, .lxor, 10, 0, 0),
  (10, .lcmp, 11, 0, 0),
  (11, .ifCond .le 7, 14, 18, 0),
  (14, .iconst 1, 15, 0, 0),
  (15, .goto 4, 18, 19, 0),
  (18, .iconst 0, 19, 0, 0),
  (19, .ireturn, 20, 0, 0)]
theorem pg_d10 : ∀ q ∈ pg_L10, decode prog_1_method_36_code q.1 = .ok (q.2.1, q.2.2.1 - q.1) := by decide +kernel
def pg_L11 : List (Nat × Instr × Nat × Nat × Nat) := [
  (0, .iload_n 1, 1, 0, 0),
  (1, .ifCond .eq 10, 4, 11, 0),
  (4, .aload_n 0, 5, 0, 0),
  (5, .getfield 14, 8, 0, 0),
  (8, .goto 7, 11, 15, 0),
  (11, .aload_n 0, 12, 0, 0),
  (12, .getfield 19, 15, 0, 1),
  (15, .astore_n 2, 16, 0, 0),
  (16, .aload_n 0, 17, 0, 0),
  (17, .aload_n 0, 18, 0, 0),
  (18, .getfield 109, 21, 0, 16),
  (21, .aload_n 2, 22, 0, 0),
  (22, .invokevirtual 298, 25, 106, 1),
  (25, .putfield 302, 28, 0, 17),
  (28, .aload_n 0, 29, 0, 0),
  (29, .getfield 302, 32, 0, 17),
  (32, .ifCond .ne 11, 35, 43, 0),
  (35, .aload_n 0, 36, 0, 0),
  (36, .getfield 109, 39, 0, 16),
  (39, .aload_n 2, 40, 0, 0),
  (40, .invokevirtual 305, 43, 108, 1),
  (43, .iload_n 1, 44, 0, 0),
  (44, .ifCond .eq 10, 47, 54, 0),
  (47, .aload_n 0, 48, 0, 0),
  (48, .getfield 14, 51, 0, 0),
  (51, .invokevirtual 142, 54, 168, 0),
  (54, .aload_n 0, 55, 0, 0),
  (55, .getfield 302, 58, 0, 17),
  (58, .ireturn, 59, 0, 0)]
theorem pg_d11 : ∀ q ∈ pg_L11, decode prog_1_method_21_code q.1 = .ok (q.2.1, q.2.2.1 - q.1) := by decide +kernel
def pg_L12 : List (Nat × Instr × Nat × Nat × Nat) := [
  (0, .aload_n 0, 1, 0, 0),
  (1, .getfield 109, 4, 0, 16),
  (4, .lload_n 1, 5, 0, 0),
  (5, .invokevirtual 308, 8, 110, 1),
  (8, .ireturn, 9, 0, 0)]
theorem pg_d12 : ∀ q ∈ pg_L12, decode prog_1_method_22_code q.1 = .ok (q.2.1, q.2.2.1 - q.1) := by decide +kernel
def pg_L13 : List (Nat × Instr × Nat × Nat × Nat) := [
  (0, .aload_n 0, 1, 0, 0),
  (1, .getfield 109, 4, 0, 16),
  (4, .lload_n 1, 5, 0, 0),
  (5, .invokevirtual 311, 8, 111, 1),
  (8, .lreturn, 9, 0, 0)]
theorem pg_d13 : ∀ q ∈ pg_L13, decode prog_1_method_23_code q.1 = .ok (q.2.1, q.2.2.1 - q.1) := by decide +kernel
def pg_L14 : List (Nat × Instr × Nat × Nat × Nat) := [
  (0, .iload_n 1, 1, 0, 0),
  (1, .iconst 1, 2, 0, 0),
  (2, .if_icmp .lt 9, 5, 11, 0),
  (5, .iload_n 1, 6, 0, 0),
  (6, .bipush 8, 8, 0, 0),
  (8, .if_icmp .le 13, 11, 21, 0),
  (11, .new 113, 14, 13, 0),
  (14, .dup, 15, 0, 0),
  (15, .ldc 115, 17, 0, 1),
  (17, .invokespecial 117, 20, 9011, 0),
  (20, .athrow, 21, 0, 0),
  (21, .aload_n 0, 22, 0, 0),
  (22, .getfield 14, 25, 0, 0),
  (25, .getfield 120, 28, 10, 1),
  (28, .iload_n 1, 29, 0, 0),
  (29, .iadd, 30, 0, 0),
  (30, .sipush 8192, 33, 0, 0),
  (33, .if_icmp .le 13, 36, 46, 0),
  (36, .new 124, 39, 14, 0),
  (39, .dup, 40, 0, 0),
  (40, .ldc 126, 42, 1, 1),
  (42, .invokespecial 128, 45, 9012, 0),
  (45, .athrow, 46, 0, 0),
  (46, .aload_n 0, 47, 0, 0),
  (47, .getfield 14, 50, 0, 0),
  (50, .iload_n 1, 51, 0, 0),
  (51, .lload_n 2, 52, 0, 0),
  (52, .invokevirtual 129, 55, 170, 2),
  (55, .aload_n 0, 56, 0, 0),
  (56, .getfield 14, 59, 0, 0),
  (59, .getfield 120, 62, 10, 1),
  (62, .ireturn, 63, 0, 0)]
theorem pg_d14 : ∀ q ∈ pg_L14, decode prog_1_method_2_code q.1 = .ok (q.2.1, q.2.2.1 - q.1) := by decide +kernel
def pg_L15 : List (Nat × Instr × Nat × Nat × Nat) := [
  (0, .aload_n 0, 1, 0, 0),
  (1, .getfield 133, 4, 0, 6),
  (4, .bipush 8, 6, 0, 0),
  (6, .if_icmp .lt 13, 9, 19, 0),
  (9, .new 124, 12, 14, 0),
  (12, .dup, 13, 0, 0),
  (13, .ldc 136, 15, 2, 1),
  (15, .invokespecial 128, 18, 9012, 0),
  (18, .athrow, 19, 0, 0),
  (19, .aload_n 0, 20, 0, 0),
  (20, .aload_n 0, 21, 0, 0),
  (21, .getfield 133, 24, 0, 6),
  (24, .bipush 8, 26, 0, 0),
  (26, .imul, 27, 0, 0),
  (27, .invokevirtual 138, 30, 16, 1),
  (30, .istore_n 1, 31, 0, 0),
  (31, .aload_n 0, 32, 0, 0),
  (32, .getfield 14, 35, 0, 0),
  (35, .invokevirtual 142, 38, 168, 0),
  (38, .iload_n 1, 39, 0, 0),
  (39, .ifCond .ne 32, 42, 71, 0),
  (42, .aload_n 0, 43, 0, 0),
  (43, .dup, 44, 0, 0),
  (44, .getfield 133, 47, 0, 6),
  (47, .iconst 1, 48, 0, 0),
  (48, .iadd, 49, 0, 0),
  (49, .putfield 133, 52, 0, 6),
  (52, .aload_n 0, 53, 0, 0),
  (53, .getfield 37, 56, 0, 5),
  (56, .aload_n 0, 57, 0, 0),
  (57, .getfield 133, 60, 0, 6),
  (60, .aload_n 0, 61, 0, 0),
  (61, .getfield 25, 64, 0, 3),
  (64, .getfield 120, 67, 10, 1),
  (67, .iastore, 68, 0, 0),
  (68, .goto 11, 71, 79, 0),
  (71, .aload_n 0, 72, 0, 0),
  (72, .aload_n 0, 73, 0, 0),
  (73, .getfield 133, 76, 0, 6),
  (76, .invokevirtual 145, 79, 20, 1),
  (79, .iload_n 1, 80, 0, 0),
  (80, .ireturn, 81, 0, 0)]
theorem pg_d15 : ∀ q ∈ pg_L15, decode prog_1_method_3_code q.1 = .ok (q.2.1, q.2.2.1 - q.1) := by decide +kernel
def pg_C0 : List (List (Nat × Instr × Nat × Nat × Nat)) := [pg_L0, pg_L1, pg_L2, pg_L3, pg_L4, pg_L5, pg_L6, pg_L7, pg_L8, pg_L9, pg_L10, pg_L11, pg_L12, pg_L13, pg_L14, pg_L15]
def pg_L16 : List (Nat × Instr × Nat × Nat × Nat) := [
  (0, .aload_n 0, 1, 0, 0),
  (1, .getfield 25, 4, 0, 3),
  (4, .getfield 120, 7, 10, 1),
  (7, .istore_n 2, 8, 0, 0),
  (8, .aload_n 0, 9, 0, 0),
  (9, .getfield 25, 12, 0, 3),
  (12, .aload_n 0, 13, 0, 0),
  (13, .getfield 14, 16, 0, 0),
  (16, .getfield 371, 19, 10, 0),
  (19, .iconst 0, 20, 0, 0),
  (20, .aload_n 0, 21, 0, 0),
  (21, .getfield 14, 24, 0, 0),
  (24, .getfield 120, 27, 10, 1),
  (27, .invokevirtual 374, 30, 174, 3),
  (30, .aload_n 0, 31, 0, 0),
  (31, .getfield 14, 34, 0, 0),
  (34, .getfield 120, 37, 10, 1),
  (37, .getstatic 397, 40, 1, 0),
  (40, .arraylength, 41, 0, 0),
  (41, .if_icmp .lt 23, 44, 64, 0),
  (44, .aload_n 0, 45, 0, 0),
  (45, .getfield 14, 48, 0, 0),
  (48, .getstatic 397, 51, 1, 0),
  (51, .invokevirtual 400, 54, 179, 1),
  (54, .ifCond .eq 10, 57, 64, 0),
  (57, .aload_n 0, 58, 0, 0),
  (58, .iload_n 1, 59, 0, 0),
  (59, .iload_n 2, 60, 0, 0),
  (60, .invokevirtual 404, 63, 17, 2),
  (63, .ireturn, 64, 0, 0),
  (64, .aload_n 0, 65, 0, 0),
  (65, .getfield 30, 68, 0, 4),
  (68, .iload_n 1, 69, 0, 0),
  (69, .aaload, 70, 0, 0),
  (70, .iconst 1, 71, 0, 0),
  (71, .iload_n 2, 72, 0, 0),
  (72, .aload_n 0, 73, 0, 0),
  (73, .getfield 14, 76, 0, 0),
  (76, .getfield 120, 79, 10, 1),
  (79, .invokevirtual 393, 82, 143, 3),
  (82, .aload_n 0, 83, 0, 0),
  (83, .getfield 30, 86, 0, 4),
  (86, .iload_n 1, 87, 0, 0),
  (87, .aaload, 88, 0, 0),
  (88, .aload_n 0, 89, 0, 0),
  (89, .getfield 41, 92, 0, 7),
  (92, .invokevirtual 408, 95, 144, 1),
  (95, .ireturn, 96, 0, 0)]
theorem pg_d16 : ∀ q ∈ pg_L16, decode prog_1_method_33_code q.1 = .ok (q.2.1, q.2.2.1 - q.1) := by decide +kernel
def pg_L17 : List (Nat × Instr × Nat × Nat × Nat) := [
  (0, .getstatic 397, 3, 1, 0),
  (3, .arraylength, 4, 0, 0),
  (4, .istore_n 3, 5, 0, 0),
  (5, .iconst 0, 6, 0, 0),
  (6, .istore 4, 8, 0, 0),
  (8, .iload 4, 10, 0, 0),
  (10, .bipush 8, 12, 0, 0),
  (12, .if_icmp .ge 90, 15, 102, 0),
  (15, .iload_n 3, 16, 0, 0),
  (16, .aload_n 0, 17, 0, 0),
  (17, .getfield 14, 20, 0, 0),
  (20, .getfield 120, 23, 10, 1),
  (23, .if_icmp .ge 79, 26, 102, 0),
  (26, .aload_n 0, 27, 0, 0),
  (27, .iload_n 3, 28, 0, 0),
  (28, .invokevirtual 412, 31, 18, 1),
  (31, .istore 5, 33, 0, 0),
  (33, .iload 5, 35, 0, 0),
  (35, .ifCond .ge 6, 38, 41, 0),
  (38, .bipush 8, 40, 0, 0),
  (40, .ireturn, 41, 0, 0),
  (41, .aload_n 0, 42, 0, 0),
  (42, .getfield 14, 45, 0, 0),
  (45, .iload_n 3, 46, 0, 0),
  (46, .invokevirtual 384, 49, 167, 1),
  (49, .bipush 47, 51, 0, 0),
  (51, .if_icmp .ne 7, 54, 58, 0),
  (54, .iconst 3, 55, 0, 0),
  (55, .goto 4, 58, 59, 0),
  (58, .iconst 2, 59, 0, 0),
  (59, .istore 6, 61, 0, 0),
  (61, .aload_n 0, 62, 0, 0),
  (62, .getfield 30, 65, 0, 4),
  (65, .iload_n 1, 66, 0, 0),
  (66, .iload 4, 68, 0, 0),
  (68, .iadd, 69, 0, 0),
  (69, .aaload, 70, 0, 0),
  (70, .iload 6, 72, 0, 0),
  (72, .iload_n 2, 73, 0, 0),
  (73, .iload_n 3, 74, 0, 0),
  (74, .iadd, 75, 0, 0),
  (75, .bipush 60, 77, 0, 0),
  (77, .iadd, 78, 0, 0),
  (78, .iload 5, 80, 0, 0),
  (80, .invokevirtual 393, 83, 143, 3),
  (83, .iload_n 3, 84, 0, 0),
  (84, .bipush 60, 86, 0, 0),
  (86, .iload 5, 88, 0, 0),
  (88, .iadd, 89, 0, 0),
  (89, .iload 5, 91, 0, 0),
  (91, .iconst 1, 92, 0, 0),
  (92, .iand, 93, 0, 0),
  (93, .iadd, 94, 0, 0),
  (94, .iadd, 95, 0, 0),
  (95, .istore_n 3, 96, 0, 0),
  (96, .iinc 4 1, 99, 0, 0),
  (99, .goto (-91), 102, 8, 0),
  (102, .iload_n 3, 103, 0, 0),
  (103, .aload_n 0, 104, 0, 0),
  (104, .getfield 14, 107, 0, 0),
  (107, .getfield 120, 110, 10, 1),
  (110, .if_icmp .eq 6, 113, 116, 0),
  (113, .bipush 8, 115, 0, 0),
  (115, .ireturn, 116, 0, 0),
  (116, .iconst 0, 117, 0, 0),
  (117, .istore 4, 119, 0, 0),
  (119, .iconst 0, 120, 0, 0),
  (120, .istore 5, 122, 0, 0),
  (122, .iload 5, 124, 0, 0),
  (124, .bipush 8, 126, 0, 0),
  (126, .if_icmp .ge 49, 129, 175, 0),
  (129, .iload 4, 131, 0, 0),
  (131, .ifCond .ne 44, 134, 175, 0),
  (134, .aload_n 0, 135, 0, 0),
  (135, .getfield 30, 138, 0, 4),
  (138, .iload_n 1, 139, 0, 0),
  (139, .iload 5, 141, 0, 0),
  (141, .iadd, 142, 0, 0),
  (142, .aaload, 143, 0, 0),
  (143, .astore 6, 145, 0, 0),
  (145, .aload 6, 147, 0, 0),
  (147, .getfield 390, 150, 7, 4),
  (150, .iconst 2, 151, 0, 0),
  (151, .if_icmp .ne 15, 154, 166, 0),
  (154, .aload 6, 156, 0, 0),
  (156, .aload_n 0, 157, 0, 0),
  (157, .getfield 41, 160, 0, 7),
  (160, .invokevirtual 408, 163, 144, 1),
  (163, .goto 4, 166, 167, 0),
  (166, .iconst 0, 167, 0, 0),
  (167, .istore 4, 169, 0, 0),
  (169, .iinc 5 1, 172, 0, 0),
  (172, .goto (-50), 175, 122, 0),
  (175, .iload 4, 177, 0, 0),
  (177, .ireturn, 178, 0, 0)]
theorem pg_d17 : ∀ q ∈ pg_L17, decode prog_1_method_34_code q.1 = .ok (q.2.1, q.2.2.1 - q.1) := by decide +kernel
def pg_L18 : List (Nat × Instr × Nat × Nat × Nat) := [
  (0, .aload_n 0, 1, 0, 0),
  (1, .getfield 14, 4, 0, 0),
  (4, .getfield 120, 7, 10, 1),
  (7, .iload_n 1, 8, 0, 0),
  (8, .isub, 9, 0, 0),
  (9, .bipush 60, 11, 0, 0),
  (11, .if_icmp .lt 22, 14, 33, 0),
  (14, .aload_n 0, 15, 0, 0),
  (15, .getfield 14, 18, 0, 0),
  (18, .iload_n 1, 19, 0, 0),
  (19, .bipush 58, 21, 0, 0),
  (21, .iadd, 22, 0, 0),
  (22, .iconst 2, 23, 0, 0),
  (23, .invokevirtual 317, 26, 177, 2),
  (26, .ldc2_w 415, 29, 11, 0),
  (29, .lcmp, 30, 0, 0),
  (30, .ifCond .eq 5, 33, 35, 0),
  (33, .iconst (-1), 34, 0, 0),
  (34, .ireturn, 35, 0, 0),
  (35, .lconst 0, 36, 0, 0),
  (36, .lstore_n 2, 37, 0, 0),
  (37, .iconst 0, 38, 0, 0),
  (38, .istore 4, 40, 0, 0),
  (40, .iconst 0, 41, 0, 0),
  (41, .istore 5, 43, 0, 0),
  (43, .iload 5, 45, 0, 0),
  (45, .bipush 10, 47, 0, 0),
  (47, .if_icmp .ge 75, 50, 122, 0),
  (50, .aload_n 0, 51, 0, 0),
  (51, .getfield 14, 54, 0, 0),
  (54, .iload_n 1, 55, 0, 0),
  (55, .bipush 48, 57, 0, 0),
  (57, .iadd, 58, 0, 0),
  (58, .iload 5, 60, 0, 0),
  (60, .iadd, 61, 0, 0),
  (61, .invokevirtual 384, 64, 167, 1),
  (64, .istore 6, 66, 0, 0),
  (66, .iload 6, 68, 0, 0),
  (68, .bipush 48, 70, 0, 0),
  (70, .if_icmp .lt 37, 73, 107, 0),
  (73, .iload 6, 75, 0, 0),
  (75, .bipush 57, 77, 0, 0),
  (77, .if_icmp .gt 30, 80, 107, 0),
  (80, .iload 4, 82, 0, 0),
  (82, .iload 5, 84, 0, 0),
  (84, .if_icmp .ne 23, 87, 107, 0),
  (87, .ldc2_w 417, 90, 12, 0),
  (90, .lload_n 2, 91, 0, 0),
  (91, .lmul, 92, 0, 0),
  (92, .iload 6, 94, 0, 0),
  (94, .i2l, 95, 0, 0),
  (95, .ladd, 96, 0, 0),
  (96, .ldc2_w 419, 99, 13, 0),
  (99, .lsub, 100, 0, 0),
  (100, .lstore_n 2, 101, 0, 0),
  (101, .iinc 4 1, 104, 0, 0),
  (104, .goto 12, 107, 116, 0),
  (107, .iload 6, 109, 0, 0),
  (109, .bipush 32, 111, 0, 0),
  (111, .if_icmp .eq 5, 114, 116, 0),
  (114, .iconst (-1), 115, 0, 0),
  (115, .ireturn, 116, 0, 0),
  (116, .iinc 5 1, 119, 0, 0),
  (119, .goto (-76), 122, 43, 0),
  (122, .aload_n 0, 123, 0, 0),
  (123, .getfield 14, 126, 0, 0),
  (126, .getfield 120, 129, 10, 1),
  (129, .iload_n 1, 130, 0, 0),
  (130, .isub, 131, 0, 0),
  (131, .bipush 60, 133, 0, 0),
  (133, .isub, 134, 0, 0),
  (134, .i2l, 135, 0, 0),
  (135, .lstore 5, 137, 0, 0),
  (137, .iload 4, 139, 0, 0),
  (139, .ifCond .eq 10, 142, 149, 0),
  (142, .lload_n 2, 143, 0, 0),
  (143, .lload 5, 145, 0, 0),
  (145, .lcmp, 146, 0, 0),
  (146, .ifCond .le 5, 149, 151, 0),
  (149, .iconst (-1), 150, 0, 0),
  (150, .ireturn, 151, 0, 0),
  (151, .lload_n 2, 152, 0, 0),
  (152, .lconst 1, 153, 0, 0),
  (153, .land, 154, 0, 0),
  (154, .lconst 1, 155, 0, 0),
  (155, .lcmp, 156, 0, 0),
  (156, .ifCond .ne 31, 159, 187, 0),
  (159, .lload_n 2, 160, 0, 0),
  (160, .lload 5, 162, 0, 0),
  (162, .lcmp, 163, 0, 0),
  (163, .ifCond .eq 22, 166, 185, 0),
  (166, .aload_n 0, 167, 0, 0),
  (167, .getfield 14, 170, 0, 0),
  (170, .iload_n 1, 171, 0, 0),
  (171, .bipush 60, 173, 0, 0),
  (173, .iadd, 174, 0, 0),
  (174, .lload_n 2, 175, 0, 0),
  (175, .l2i, 176, 0, 0),
  (176, .iadd, 177, 0, 0),
  (177, .invokevirtual 384, 180, 167, 1),
  (180, .bipush 10, 182, 0, 0),
  (182, .if_icmp .eq 5, 185, 187, 0),
  (185, .iconst (-1), 186, 0, 0),
  (186, .ireturn, 187, 0, 0),
  (187, .lload_n 2, 188, 0, 0),
  (188, .l2i, 189, 0, 0),
  (189, .ireturn, 190, 0, 0)]
theorem pg_d18 : ∀ q ∈ pg_L18, decode prog_1_method_35_code q.1 = .ok (q.2.1, q.2.2.1 - q.1) := by decide +kernel
def pg_L19 : List (Nat × Instr × Nat × Nat × Nat) := [
  (0, .lload_n 0, 1, 0, 0),
  (1, .lconst 1, 2, 0, 0),
  (2, .lcmp, 3, 0, 0),
  (3, .ifCond .lt 25, 6, 28, 0),
  (6, .lload_n 0, 7, 0, 0),
  (7, .ldc2_w 423, 10, 14, 0),
  (10, .lcmp, 11, 0, 0),
  (11, .ifCond .gt 17, 14, 28, 0),
  (14, .lload_n 0, 15, 0, 0),
  (15, .lload_n 0, 16, 0, 0),
  (16, .lconst 1, 17, 0, 0),
  (17, .lsub, 18, 0, 0),
  (18, .land, 19, 0, 0),
  (19, .lconst 0, 20, 0, 0),
  (20, .lcmp, 21, 0, 0),
  (21, .ifCond .ne 7, 24, 28, 0),
  (24, .iconst 1, 25, 0, 0),
  (25, .goto 4, 28, 29, 0),
  (28, .iconst 0, 29, 0, 0),
  (29, .ireturn, 30, 0, 0)]
theorem pg_d19 : ∀ q ∈ pg_L19, decode prog_1_method_38_code q.1 = .ok (q.2.1, q.2.2.1 - q.1) := by decide +kernel
def pg_L20 : List (Nat × Instr × Nat × Nat × Nat) := [
  (0, .iconst 0, 1, 0, 0),
  (1, .istore_n 2, 2, 0, 0),
  (2, .iload_n 2, 3, 0, 0),
  (3, .bipush 8, 5, 0, 0),
  (5, .if_icmp .ge 26, 8, 31, 0),
  (8, .aload_n 0, 9, 0, 0),
  (9, .getfield 30, 12, 0, 4),
  (12, .iload_n 1, 13, 0, 0),
  (13, .bipush 8, 15, 0, 0),
  (15, .imul, 16, 0, 0),
  (16, .iload_n 2, 17, 0, 0),
  (17, .iadd, 18, 0, 0),
  (18, .aaload, 19, 0, 0),
  (19, .iconst 0, 20, 0, 0),
  (20, .iconst 0, 21, 0, 0),
  (21, .iconst 0, 22, 0, 0),
  (22, .invokevirtual 393, 25, 143, 3),
  (25, .iinc 2 1, 28, 0, 0),
  (28, .goto (-26), 31, 2, 0),
  (31, .aload_n 0, 32, 0, 0),
  (32, .getfield 25, 35, 0, 3),
  (35, .aload_n 0, 36, 0, 0),
  (36, .getfield 37, 39, 0, 5),
  (39, .iload_n 1, 40, 0, 0),
  (40, .iaload, 41, 0, 0),
  (41, .putfield 120, 44, 10, 1),
  (44, .return_, 45, 0, 0)]
theorem pg_d20 : ∀ q ∈ pg_L20, decode prog_1_method_32_code q.1 = .ok (q.2.1, q.2.2.1 - q.1) := by decide +kernel
def pg_L21 : List (Nat × Instr × Nat × Nat × Nat) := [
  (0, .aload_n 0, 1, 0, 0),
  (1, .getfield 133, 4, 0, 6),
  (4, .ifCond .gt 13, 7, 17, 0),
  (7, .new 124, 10, 14, 0),
  (10, .dup, 11, 0, 0),
  (11, .ldc 148, 13, 3, 1),
  (13, .invokespecial 128, 16, 9012, 0),
  (16, .athrow, 17, 0, 0),
  (17, .aload_n 0, 18, 0, 0),
  (18, .dup, 19, 0, 0),
  (19, .getfield 133, 22, 0, 6),
  (22, .iconst 1, 23, 0, 0),
  (23, .isub, 24, 0, 0),
  (24, .putfield 133, 27, 0, 6),
  (27, .aload_n 0, 28, 0, 0),
  (28, .aload_n 0, 29, 0, 0),
  (29, .getfield 133, 32, 0, 6),
  (32, .invokevirtual 145, 35, 20, 1),
  (35, .aload_n 0, 36, 0, 0),
  (36, .getfield 133, 39, 0, 6),
  (39, .ireturn, 40, 0, 0)]
theorem pg_d21 : ∀ q ∈ pg_L21, decode prog_1_method_4_code q.1 = .ok (q.2.1, q.2.2.1 - q.1) := by decide +kernel
def pg_L22 : List (Nat × Instr × Nat × Nat × Nat) := [
  (0, .aload_n 0, 1, 0, 0),
  (1, .invokevirtual 162, 4, 23, 0),
  (4, .istore_n 3, 5, 0, 0),
  (5, .iload_n 3, 6, 0, 0),
  (6, .ifCond .ne 13, 9, 19, 0),
  (9, .new 113, 12, 13, 0),
  (12, .dup, 13, 0, 0),
  (13, .ldc 166, 15, 4, 1),
  (15, .invokespecial 117, 18, 9011, 0),
  (18, .athrow, 19, 0, 0),
  (19, .aload_n 0, 20, 0, 0),
  (20, .getfield 47, 23, 0, 8),
  (23, .aload_n 0, 24, 0, 0),
  (24, .getfield 57, 27, 0, 10),
  (27, .invokevirtual 168, 30, 124, 1),
  (30, .ifnonnull 15, 33, 45, 0),
  (33, .aload_n 0, 34, 0, 0),
  (34, .getfield 47, 37, 0, 8),
  (37, .getfield 172, 40, 6, 2),
  (40, .bipush 16, 42, 0, 0),
  (42, .if_icmp .lt 13, 45, 55, 0),
  (45, .new 124, 48, 14, 0),
  (48, .dup, 49, 0, 0),
  (49, .ldc 175, 51, 5, 1),
  (51, .invokespecial 128, 54, 9012, 0),
  (54, .athrow, 55, 0, 0),
  (55, .aload_n 0, 56, 0, 0),
  (56, .getfield 47, 59, 0, 8),
  (59, .aload_n 0, 60, 0, 0),
  (60, .getfield 57, 63, 0, 10),
  (63, .invokevirtual 177, 66, 123, 1),
  (66, .lload_n 1, 67, 0, 0),
  (67, .putfield 180, 70, 5, 7),
  (70, .aload_n 0, 71, 0, 0),
  (71, .getfield 47, 74, 0, 8),
  (74, .getfield 172, 77, 6, 2),
  (77, .ireturn, 78, 0, 0)]
theorem pg_d22 : ∀ q ∈ pg_L22, decode prog_1_method_7_code q.1 = .ok (q.2.1, q.2.2.1 - q.1) := by decide +kernel
def pg_L23 : List (Nat × Instr × Nat × Nat × Nat) := [
  (0, .aload_n 0, 1, 0, 0),
  (1, .getfield 14, 4, 0, 0),
  (4, .getfield 120, 7, 10, 1),
  (7, .iconst 1, 8, 0, 0),
  (8, .if_icmp .lt 19, 11, 27, 0),
  (11, .aload_n 0, 12, 0, 0),
  (12, .getfield 14, 15, 0, 0),
  (15, .getfield 120, 18, 10, 1),
  (18, .bipush 20, 20, 0, 0),
  (20, .if_icmp .gt 7, 23, 27, 0),
  (23, .iconst 1, 24, 0, 0),
  (24, .goto 4, 27, 28, 0),
  (27, .iconst 0, 28, 0, 0),
  (28, .istore_n 1, 29, 0, 0),
  (29, .aload_n 0, 30, 0, 0),
  (30, .getfield 57, 33, 0, 10),
  (33, .invokevirtual 381, 36, 114, 0),
  (36, .iconst 0, 37, 0, 0),
  (37, .istore_n 2, 38, 0, 0),
  (38, .iload_n 1, 39, 0, 0),
  (39, .ifCond .eq 47, 42, 86, 0),
  (42, .iload_n 2, 43, 0, 0),
  (43, .aload_n 0, 44, 0, 0),
  (44, .getfield 14, 47, 0, 0),
  (47, .getfield 120, 50, 10, 1),
  (50, .if_icmp .ge 36, 53, 86, 0),
  (53, .aload_n 0, 54, 0, 0),
  (54, .getfield 14, 57, 0, 0),
  (57, .iload_n 2, 58, 0, 0),
  (58, .invokevirtual 384, 61, 167, 1),
  (61, .istore_n 3, 62, 0, 0),
  (62, .aload_n 0, 63, 0, 0),
  (63, .getfield 57, 66, 0, 10),
  (66, .iload_n 3, 67, 0, 0),
  (67, .invokevirtual 387, 70, 115, 1),
  (70, .iload_n 3, 71, 0, 0),
  (71, .ifCond .eq 7, 74, 78, 0),
  (74, .iconst 1, 75, 0, 0),
  (75, .goto 4, 78, 79, 0),
  (78, .iconst 0, 79, 0, 0),
  (79, .istore_n 1, 80, 0, 0),
  (80, .iinc 2 1, 83, 0, 0),
  (83, .goto (-45), 86, 38, 0),
  (86, .aload_n 0, 87, 0, 0),
  (87, .getfield 14, 90, 0, 0),
  (90, .invokevirtual 142, 93, 168, 0),
  (93, .iload_n 1, 94, 0, 0),
  (94, .ireturn, 95, 0, 0)]
theorem pg_d23 : ∀ q ∈ pg_L23, decode prog_1_method_29_code q.1 = .ok (q.2.1, q.2.2.1 - q.1) := by decide +kernel
def pg_L24 : List (Nat × Instr × Nat × Nat × Nat) := [
  (0, .aload_n 0, 1, 0, 0),
  (1, .invokevirtual 162, 4, 23, 0),
  (4, .istore_n 1, 5, 0, 0),
  (5, .iload_n 1, 6, 0, 0),
  (6, .ifCond .ne 13, 9, 19, 0),
  (9, .new 113, 12, 13, 0),
  (12, .dup, 13, 0, 0),
  (13, .ldc 166, 15, 4, 1),
  (15, .invokespecial 117, 18, 9011, 0),
  (18, .athrow, 19, 0, 0),
  (19, .aload_n 0, 20, 0, 0),
  (20, .getfield 51, 23, 0, 9),
  (23, .aload_n 0, 24, 0, 0),
  (24, .getfield 57, 27, 0, 10),
  (27, .invokevirtual 168, 30, 124, 1),
  (30, .ifnonnull 15, 33, 45, 0),
  (33, .aload_n 0, 34, 0, 0),
  (34, .getfield 51, 37, 0, 9),
  (37, .getfield 172, 40, 6, 2),
  (40, .bipush 16, 42, 0, 0),
  (42, .if_icmp .lt 13, 45, 55, 0),
  (45, .new 124, 48, 14, 0),
  (48, .dup, 49, 0, 0),
  (49, .ldc 184, 51, 6, 1),
  (51, .invokespecial 128, 54, 9012, 0),
  (54, .athrow, 55, 0, 0),
  (55, .aload_n 0, 56, 0, 0),
  (56, .getfield 51, 59, 0, 9),
  (59, .aload_n 0, 60, 0, 0),
  (60, .getfield 57, 63, 0, 10),
  (63, .invokevirtual 177, 66, 123, 1),
  (66, .pop, 67, 0, 0),
  (67, .aload_n 0, 68, 0, 0),
  (68, .getfield 51, 71, 0, 9),
  (71, .getfield 172, 74, 6, 2),
  (74, .ireturn, 75, 0, 0)]
theorem pg_d24 : ∀ q ∈ pg_L24, decode prog_1_method_8_code q.1 = .ok (q.2.1, q.2.2.1 - q.1) := by decide +kernel
def pg_L25 : List (Nat × Instr × Nat × Nat × Nat) := [
  (0, .aload_n 0, 1, 0, 0),
  (1, .getfield 66, 4, 0, 11),
  (4, .getfield 190, 7, 3, 18),
  (7, .ifCond .eq 13, 10, 20, 0),
  (10, .new 124, 13, 14, 0),
  (13, .dup, 14, 0, 0),
  (14, .ldc 193, 16, 7, 1),
  (16, .invokespecial 128, 19, 9012, 0),
  (19, .athrow, 20, 0, 0),
  (20, .aload_n 0, 21, 0, 0),
  (21, .getfield 102, 24, 0, 15),
  (24, .aload_n 0, 25, 0, 0),
  (25, .getfield 22, 28, 0, 2),
  (28, .aload_n 0, 29, 0, 0),
  (29, .getfield 93, 32, 0, 14),
  (32, .getfield 195, 35, 1, 4),
  (35, .invokevirtual 198, 38, 203, 2),
  (38, .ifCond .ne 5, 41, 43, 0),
  (41, .iconst (-1), 42, 0, 0),
  (42, .ireturn, 43, 0, 0),
  (43, .aload_n 0, 44, 0, 0),
  (44, .invokevirtual 158, 47, 6, 0),
  (47, .ireturn, 48, 0, 0)]
theorem pg_d25 : ∀ q ∈ pg_L25, decode prog_1_method_11_code q.1 = .ok (q.2.1, q.2.2.1 - q.1) := by decide +kernel
def pg_L26 : List (Nat × Instr × Nat × Nat × Nat) := [
  (0, .aload_n 0, 1, 0, 0),
  (1, .iload_n 1, 2, 0, 0),
  (2, .iload_n 2, 3, 0, 0),
  (3, .invokevirtual 228, 6, 27, 2),
  (6, .astore_n 3, 7, 0, 0),
  (7, .aload_n 3, 8, 0, 0),
  (8, .ifnonnull 13, 11, 21, 0),
  (11, .new 232, 14, 15, 0),
  (14, .dup, 15, 0, 0),
  (15, .ldc 234, 17, 8, 1),
  (17, .invokespecial 236, 20, 9013, 0),
  (20, .athrow, 21, 0, 0),
  (21, .aload_n 0, 22, 0, 0),
  (22, .getfield 102, 25, 0, 15),
  (25, .aload_n 0, 26, 0, 0),
  (26, .getfield 19, 29, 0, 1),
  (29, .aload_n 3, 30, 0, 0),
  (30, .invokevirtual 237, 33, 206, 2),
  (33, .aload_n 0, 34, 0, 0),
  (34, .getfield 19, 37, 0, 1),
  (37, .getfield 120, 40, 10, 1),
  (40, .ireturn, 41, 0, 0)]
theorem pg_d26 : ∀ q ∈ pg_L26, decode prog_1_method_13_code q.1 = .ok (q.2.1, q.2.2.1 - q.1) := by decide +kernel
def pg_L27 : List (Nat × Instr × Nat × Nat × Nat) := [
  (0, .aload_n 0, 1, 0, 0),
  (1, .iload_n 1, 2, 0, 0),
  (2, .iload_n 2, 3, 0, 0),
  (3, .invokevirtual 261, 6, 28, 2),
  (6, .astore_n 3, 7, 0, 0),
  (7, .aload_n 3, 8, 0, 0),
  (8, .ifnull 11, 11, 19, 0),
  (11, .aload_n 3, 12, 0, 0),
  (12, .getfield 390, 15, 7, 4),
  (15, .iconst 3, 16, 0, 0),
  (16, .if_icmp .ne 7, 19, 23, 0),
  (19, .aconst_null, 20, 0, 0),
  (20, .goto 4, 23, 24, 0),
  (23, .aload_n 3, 24, 0, 0),
  (24, .areturn, 25, 0, 0)]
theorem pg_d27 : ∀ q ∈ pg_L27, decode prog_1_method_31_code q.1 = .ok (q.2.1, q.2.2.1 - q.1) := by decide +kernel
def pg_L28 : List (Nat × Instr × Nat × Nat × Nat) := [
  (0, .iload_n 1, 1, 0, 0),
  (1, .ifCond .lt 21, 4, 22, 0),
  (4, .iload_n 1, 5, 0, 0),
  (5, .aload_n 0, 6, 0, 0),
  (6, .getfield 133, 9, 0, 6),
  (9, .if_icmp .ge 13, 12, 22, 0),
  (12, .iload_n 2, 13, 0, 0),
  (13, .ifCond .lt 9, 16, 22, 0),
  (16, .iload_n 2, 17, 0, 0),
  (17, .bipush 8, 19, 0, 0),
  (19, .if_icmp .lt 5, 22, 24, 0),
  (22, .aconst_null, 23, 0, 0),
  (23, .areturn, 24, 0, 0),
  (24, .aload_n 0, 25, 0, 0),
  (25, .getfield 30, 28, 0, 4),
  (28, .iload_n 1, 29, 0, 0),
  (29, .bipush 8, 31, 0, 0),
  (31, .imul, 32, 0, 0),
  (32, .iload_n 2, 33, 0, 0),
  (33, .iadd, 34, 0, 0),
  (34, .aaload, 35, 0, 0),
  (35, .astore_n 3, 36, 0, 0),
  (36, .aload_n 3, 37, 0, 0),
  (37, .getfield 390, 40, 7, 4),
  (40, .ifCond .ne 7, 43, 47, 0),
  (43, .aconst_null, 44, 0, 0),
  (44, .goto 4, 47, 48, 0),
  (47, .aload_n 3, 48, 0, 0),
  (48, .areturn, 49, 0, 0)]
theorem pg_d28 : ∀ q ∈ pg_L28, decode prog_1_method_30_code q.1 = .ok (q.2.1, q.2.2.1 - q.1) := by decide +kernel
def pg_L29 : List (Nat × Instr × Nat × Nat × Nat) := [
  (0, .aload_n 0, 1, 0, 0),
  (1, .iload_n 1, 2, 0, 0),
  (2, .iload_n 2, 3, 0, 0),
  (3, .invokevirtual 228, 6, 27, 2),
  (6, .astore 4, 8, 0, 0),
  (8, .aload 4, 10, 0, 0),
  (10, .ifnull 12, 13, 22, 0),
  (13, .iload_n 3, 14, 0, 0),
  (14, .ifCond .lt 8, 17, 22, 0),
  (17, .iload_n 3, 18, 0, 0),
  (18, .iconst 5, 19, 0, 0),
  (19, .if_icmp .le 13, 22, 32, 0),
  (22, .new 232, 25, 15, 0),
  (25, .dup, 26, 0, 0),
  (26, .ldc 241, 28, 9, 1),
  (28, .invokespecial 236, 31, 9013, 0),
  (31, .athrow, 32, 0, 0),
  (32, .lconst 0, 33, 0, 0),
  (33, .lstore 5, 35, 0, 0),
  (35, .iconst 0, 36, 0, 0),
  (36, .istore 7, 38, 0, 0),
  (38, .iload 7, 40, 0, 0),
  (40, .aload 4, 42, 0, 0),
  (42, .getfield 243, 45, 7, 8),
  (45, .if_icmp .ge 33, 48, 78, 0),
  (48, .aload 4, 50, 0, 0),
  (50, .iload 7, 52, 0, 0),
  (52, .i2l, 53, 0, 0),
  (53, .invokevirtual 246, 56, 126, 1),
  (56, .iload_n 3, 57, 0, 0),
  (57, .if_icmp .ne 15, 60, 72, 0),
  (60, .lload 5, 62, 0, 0),
  (62, .aload 4, 64, 0, 0),
  (64, .iload 7, 66, 0, 0),
  (66, .invokevirtual 249, 69, 127, 1),
  (69, .ladd, 70, 0, 0),
  (70, .lstore 5, 72, 0, 0),
  (72, .iinc 7 1, 75, 0, 0),
  (75, .goto (-37), 78, 38, 0),
  (78, .lload 5, 80, 0, 0),
  (80, .lreturn, 81, 0, 0)]
theorem pg_d29 : ∀ q ∈ pg_L29, decode prog_1_method_14_code q.1 = .ok (q.2.1, q.2.2.1 - q.1) := by decide +kernel
def pg_L30 : List (Nat × Instr × Nat × Nat × Nat) := [
  (0, .aload_n 0, 1, 0, 0),
  (1, .getfield 66, 4, 0, 11),
  (4, .getfield 190, 7, 3, 18),
  (7, .ifCond .eq 13, 10, 20, 0),
  (10, .new 124, 13, 14, 0),
  (13, .dup, 14, 0, 0),
  (14, .ldc 193, 16, 7, 1),
  (16, .invokespecial 128, 19, 9012, 0),
  (19, .athrow, 20, 0, 0),
  (20, .aload_n 0, 21, 0, 0),
  (21, .getfield 102, 24, 0, 15),
  (24, .aload_n 0, 25, 0, 0),
  (25, .getfield 22, 28, 0, 2),
  (28, .invokevirtual 252, 31, 208, 1),
  (31, .ifCond .ne 5, 34, 36, 0),
  (34, .iconst (-1), 35, 0, 0),
  (35, .ireturn, 36, 0, 0),
  (36, .aload_n 0, 37, 0, 0),
  (37, .invokevirtual 158, 40, 6, 0),
  (40, .ireturn, 41, 0, 0)]
theorem pg_d30 : ∀ q ∈ pg_L30, decode prog_1_method_15_code q.1 = .ok (q.2.1, q.2.2.1 - q.1) := by decide +kernel
def pg_L31 : List (Nat × Instr × Nat × Nat × Nat) := [
  (0, .aload_n 0, 1, 0, 0),
  (1, .getfield 66, 4, 0, 11),
  (4, .getfield 190, 7, 3, 18),
  (7, .ifCond .eq 13, 10, 20, 0),
  (10, .new 124, 13, 14, 0),
  (13, .dup, 14, 0, 0),
  (14, .ldc 193, 16, 7, 1),
  (16, .invokespecial 128, 19, 9012, 0),
  (19, .athrow, 20, 0, 0),
  (20, .aload_n 0, 21, 0, 0),
  (21, .invokevirtual 162, 24, 23, 0),
  (24, .ifCond .eq 20, 27, 44, 0),
  (27, .aload_n 0, 28, 0, 0),
  (28, .getfield 66, 31, 0, 11),
  (31, .getfield 255, 34, 3, 3),
  (34, .aload_n 0, 35, 0, 0),
  (35, .getfield 57, 38, 0, 10),
  (38, .invokevirtual 168, 41, 124, 1),
  (41, .goto 4, 44, 45, 0),
  (44, .aconst_null, 45, 0, 0),
  (45, .astore_n 1, 46, 0, 0),
  (46, .aload_n 1, 47, 0, 0),
  (47, .ifnonnull 9, 50, 56, 0),
  (50, .ldc2_w 209, 53, 9, 0),
  (53, .goto 7, 56, 60, 0),
  (56, .aload_n 1, 57, 0, 0),
  (57, .getfield 258, 60, 5, 14),
  (60, .lreturn, 61, 0, 0)]
theorem pg_d31 : ∀ q ∈ pg_L31, decode prog_1_method_16_code q.1 = .ok (q.2.1, q.2.2.1 - q.1) := by decide +kernel
def pg_C1 : List (List (Nat × Instr × Nat × Nat × Nat)) := [pg_L16, pg_L17, pg_L18, pg_L19, pg_L20, pg_L21, pg_L22, pg_L23, pg_L24, pg_L25, pg_L26, pg_L27, pg_L28, pg_L29, pg_L30, pg_L31]
def pg_L32 : List (Nat × Instr × Nat × Nat × Nat) := [
  (0, .aload_n 0, 1, 0, 0),
  (1, .iload_n 1, 2, 0, 0),
  (2, .iload_n 2, 3, 0, 0),
  (3, .invokevirtual 261, 6, 28, 2),
  (6, .astore_n 3, 7, 0, 0),
  (7, .aload_n 3, 8, 0, 0),
  (8, .ifnonnull 14, 11, 22, 0),
  (11, .new 232, 14, 15, 0),
  (14, .dup, 15, 0, 0),
  (15, .ldc_w 264, 18, 10, 1),
  (18, .invokespecial 236, 21, 9013, 0),
  (21, .athrow, 22, 0, 0),
  (22, .aload_n 3, 23, 0, 0),
  (23, .getfield 266, 26, 7, 15),
  (26, .ireturn, 27, 0, 0)]
theorem pg_d32 : ∀ q ∈ pg_L32, decode prog_1_method_17_code q.1 = .ok (q.2.1, q.2.2.1 - q.1) := by decide +kernel
def pg_L33 : List (Nat × Instr × Nat × Nat × Nat) := [
  (0, .aload_n 0, 1, 0, 0),
  (1, .iload_n 1, 2, 0, 0),
  (2, .iload_n 2, 3, 0, 0),
  (3, .invokevirtual 261, 6, 28, 2),
  (6, .astore_n 3, 7, 0, 0),
  (7, .aload_n 3, 8, 0, 0),
  (8, .ifnonnull 14, 11, 22, 0),
  (11, .new 232, 14, 15, 0),
  (14, .dup, 15, 0, 0),
  (15, .ldc_w 264, 18, 10, 1),
  (18, .invokespecial 236, 21, 9013, 0),
  (21, .athrow, 22, 0, 0),
  (22, .aload_n 3, 23, 0, 0),
  (23, .getfield 270, 26, 7, 16),
  (26, .ifCond .ne 5, 29, 31, 0),
  (29, .iconst 0, 30, 0, 0),
  (30, .ireturn, 31, 0, 0),
  (31, .aload_n 0, 32, 0, 0),
  (32, .getfield 57, 35, 0, 10),
  (35, .aload_n 0, 36, 0, 0),
  (36, .getfield 25, 39, 0, 3),
  (39, .aload_n 3, 40, 0, 0),
  (40, .aload_n 3, 41, 0, 0),
  (41, .getfield 270, 44, 7, 16),
  (44, .invokevirtual 273, 47, 133, 1),
  (47, .invokevirtual 217, 50, 117, 2),
  (50, .aload_n 0, 51, 0, 0),
  (51, .getfield 19, 54, 0, 1),
  (54, .invokevirtual 142, 57, 168, 0),
  (57, .aload_n 0, 58, 0, 0),
  (58, .getfield 57, 61, 0, 10),
  (61, .aload_n 0, 62, 0, 0),
  (62, .getfield 19, 65, 0, 1),
  (65, .invokevirtual 221, 68, 119, 1),
  (68, .aload_n 0, 69, 0, 0),
  (69, .getfield 19, 72, 0, 1),
  (72, .getfield 120, 75, 10, 1),
  (75, .ireturn, 76, 0, 0)]
theorem pg_d33 : ∀ q ∈ pg_L33, decode prog_1_method_18_code q.1 = .ok (q.2.1, q.2.2.1 - q.1) := by decide +kernel
def pg_L34 : List (Nat × Instr × Nat × Nat × Nat) := [
  (0, .aload_n 0, 1, 0, 0),
  (1, .getfield 66, 4, 0, 11),
  (4, .getfield 190, 7, 3, 18),
  (7, .ifCond .eq 13, 10, 20, 0),
  (10, .new 124, 13, 14, 0),
  (13, .dup, 14, 0, 0),
  (14, .ldc 193, 16, 7, 1),
  (16, .invokespecial 128, 19, 9012, 0),
  (19, .athrow, 20, 0, 0),
  (20, .iload_n 1, 21, 0, 0),
  (21, .ifCond .lt 23, 24, 44, 0),
  (24, .iload_n 1, 25, 0, 0),
  (25, .aload_n 0, 26, 0, 0),
  (26, .getfield 84, 29, 0, 13),
  (29, .getfield 274, 32, 2, 11),
  (32, .if_icmp .ge 12, 35, 44, 0),
  (35, .iload_n 2, 36, 0, 0),
  (36, .ifCond .lt 8, 39, 44, 0),
  (39, .iload_n 2, 40, 0, 0),
  (40, .iconst 4, 41, 0, 0),
  (41, .if_icmp .le 14, 44, 55, 0),
  (44, .new 232, 47, 15, 0),
  (47, .dup, 48, 0, 0),
  (48, .ldc_w 275, 51, 11, 1),
  (51, .invokespecial 236, 54, 9013, 0),
  (54, .athrow, 55, 0, 0),
  (55, .aload_n 0, 56, 0, 0),
  (56, .getfield 84, 59, 0, 13),
  (59, .iload_n 1, 60, 0, 0),
  (60, .invokevirtual 277, 63, 57, 1),
  (63, .astore_n 3, 64, 0, 0),
  (64, .iload_n 2, 65, 0, 0),
  (65, .tableswitch 51 0 3 #[31, 36, 41, 46], 96, 0, 0),
  (96, .aload_n 3, 97, 0, 0),
  (97, .getfield 281, 100, 8, 1),
  (100, .ireturn, 101, 0, 0),
  (101, .aload_n 3, 102, 0, 0),
  (102, .getfield 285, 105, 8, 2),
  (105, .ireturn, 106, 0, 0),
  (106, .aload_n 3, 107, 0, 0),
  (107, .getfield 288, 110, 8, 3),
  (110, .ireturn, 111, 0, 0),
  (111, .aload_n 3, 112, 0, 0),
  (112, .getfield 291, 115, 8, 4),
  (115, .ireturn, 116, 0, 0),
  (116, .aload_n 3, 117, 0, 0),
  (117, .getfield 294, 120, 8, 5),
  (120, .ireturn, 121, 0, 0)]
theorem pg_d34 : ∀ q ∈ pg_L34, decode prog_1_method_19_code q.1 = .ok (q.2.1, q.2.2.1 - q.1) := by decide +kernel
def pg_L35 : List (Nat × Instr × Nat × Nat × Nat) := [
  (0, .aload_n 0, 1, 0, 0),
  (1, .getfield 66, 4, 0, 11),
  (4, .getfield 190, 7, 3, 18),
  (7, .ifCond .eq 13, 10, 20, 0),
  (10, .new 124, 13, 14, 0),
  (13, .dup, 14, 0, 0),
  (14, .ldc 193, 16, 7, 1),
  (16, .invokespecial 128, 19, 9012, 0),
  (19, .athrow, 20, 0, 0),
  (20, .iload_n 1, 21, 0, 0),
  (21, .ifCond .lt 14, 24, 35, 0),
  (24, .iload_n 1, 25, 0, 0),
  (25, .aload_n 0, 26, 0, 0),
  (26, .getfield 84, 29, 0, 13),
  (29, .getfield 274, 32, 2, 11),
  (32, .if_icmp .lt 14, 35, 46, 0),
  (35, .new 232, 38, 15, 0),
  (38, .dup, 39, 0, 0),
  (39, .ldc_w 295, 42, 12, 1),
  (42, .invokespecial 236, 45, 9013, 0),
  (45, .athrow, 46, 0, 0),
  (46, .aload_n 0, 47, 0, 0),
  (47, .getfield 84, 50, 0, 13),
  (50, .iload_n 1, 51, 0, 0),
  (51, .invokevirtual 277, 54, 57, 1),
  (54, .getfield 297, 57, 8, 11),
  (57, .lreturn, 58, 0, 0)]
theorem pg_d35 : ∀ q ∈ pg_L35, decode prog_1_method_20_code q.1 = .ok (q.2.1, q.2.2.1 - q.1) := by decide +kernel
def pg_L36 : List (Nat × Instr × Nat × Nat × Nat) := [
  (0, .iload_n 1, 1, 0, 0),
  (1, .ifCond .lt 14, 4, 15, 0),
  (4, .iload_n 1, 5, 0, 0),
  (5, .aload_n 0, 6, 0, 0),
  (6, .getfield 19, 9, 0, 1),
  (9, .getfield 120, 12, 10, 1),
  (12, .if_icmp .lt 14, 15, 26, 0),
  (15, .new 232, 18, 15, 0),
  (18, .dup, 19, 0, 0),
  (19, .ldc_w 315, 22, 13, 1),
  (22, .invokespecial 236, 25, 9013, 0),
  (25, .athrow, 26, 0, 0),
  (26, .aload_n 0, 27, 0, 0),
  (27, .getfield 19, 30, 0, 1),
  (30, .iload_n 1, 31, 0, 0),
  (31, .bipush 8, 33, 0, 0),
  (33, .invokevirtual 317, 36, 177, 2),
  (36, .lreturn, 37, 0, 0)]
theorem pg_d36 : ∀ q ∈ pg_L36, decode prog_1_method_24_code q.1 = .ok (q.2.1, q.2.2.1 - q.1) := by decide +kernel
def pg_L37 : List (Nat × Instr × Nat × Nat × Nat) := [
  (0, .iload_n 1, 1, 0, 0),
  (1, .ifCond .lt 9, 4, 10, 0),
  (4, .iload_n 1, 5, 0, 0),
  (5, .bipush 18, 7, 0, 0),
  (7, .if_icmp .le 14, 10, 21, 0),
  (10, .new 113, 13, 13, 0),
  (13, .dup, 14, 0, 0),
  (14, .ldc_w 321, 17, 14, 1),
  (17, .invokespecial 117, 20, 9011, 0),
  (20, .athrow, 21, 0, 0),
  (21, .iload_n 1, 22, 0, 0),
  (22, .tableswitch 164 0 18 #[90, 96, 105, 164, 164, 164, 164, 164, 164, 114, 123, 131, 164, 164, 164, 164, 137, 146, 155], 112, 0, 0),
  (112, .aload_n 0, 113, 0, 0),
  (113, .getfield 133, 116, 0, 6),
  (116, .i2l, 117, 0, 0),
  (117, .lreturn, 118, 0, 0),
  (118, .aload_n 0, 119, 0, 0),
  (119, .getfield 14, 122, 0, 0),
  (122, .getfield 120, 125, 10, 1),
  (125, .i2l, 126, 0, 0),
  (126, .lreturn, 127, 0, 0),
  (127, .aload_n 0, 128, 0, 0),
  (128, .getfield 19, 131, 0, 1),
  (131, .getfield 120, 134, 10, 1),
  (134, .i2l, 135, 0, 0),
  (135, .lreturn, 136, 0, 0),
  (136, .aload_n 0, 137, 0, 0),
  (137, .getfield 109, 140, 0, 16),
  (140, .getfield 323, 143, 4, 6),
  (143, .i2l, 144, 0, 0),
  (144, .lreturn, 145, 0, 0),
  (145, .aload_n 0, 146, 0, 0),
  (146, .getfield 109, 149, 0, 16),
  (149, .getfield 326, 152, 4, 7),
  (152, .lreturn, 153, 0, 0),
  (153, .aload_n 0, 154, 0, 0),
  (154, .getfield 302, 157, 0, 17),
  (157, .i2l, 158, 0, 0),
  (158, .lreturn, 159, 0, 0),
  (159, .aload_n 0, 160, 0, 0),
  (160, .getfield 47, 163, 0, 8),
  (163, .getfield 172, 166, 6, 2),
  (166, .i2l, 167, 0, 0),
  (167, .lreturn, 168, 0, 0),
  (168, .aload_n 0, 169, 0, 0),
  (169, .getfield 51, 172, 0, 9),
  (172, .getfield 172, 175, 6, 2),
  (175, .i2l, 176, 0, 0),
  (176, .lreturn, 177, 0, 0),
  (177, .aload_n 0, 178, 0, 0),
  (178, .getfield 109, 181, 0, 16),
  (181, .getfield 329, 184, 4, 12),
  (184, .i2l, 185, 0, 0),
  (185, .lreturn, 186, 0, 0),
  (186, .aload_n 0, 187, 0, 0),
  (187, .iload_n 1, 188, 0, 0),
  (188, .invokevirtual 332, 191, 38, 1),
  (191, .lreturn, 192, 0, 0)]
theorem pg_d37 : ∀ q ∈ pg_L37, decode prog_1_method_25_code q.1 = .ok (q.2.1, q.2.2.1 - q.1) := by decide +kernel
def pg_L38 : List (Nat × Instr × Nat × Nat × Nat) := [
  (0, .aload_n 0, 1, 0, 0),
  (1, .getfield 66, 4, 0, 11),
  (4, .getfield 190, 7, 3, 18),
  (7, .ifCond .ne 7, 10, 14, 0),
  (10, .iconst 1, 11, 0, 0),
  (11, .goto 4, 14, 15, 0),
  (14, .iconst 0, 15, 0, 0),
  (15, .istore_n 2, 16, 0, 0),
  (16, .iload_n 2, 17, 0, 0),
  (17, .ifCond .ne 14, 20, 31, 0),
  (20, .aload_n 0, 21, 0, 0),
  (21, .getfield 66, 24, 0, 11),
  (24, .getfield 190, 27, 3, 18),
  (27, .iconst 2, 28, 0, 0),
  (28, .if_icmp .le 7, 31, 35, 0),
  (31, .iconst 1, 32, 0, 0),
  (32, .goto 4, 35, 36, 0),
  (35, .iconst 0, 36, 0, 0),
  (36, .istore_n 3, 37, 0, 0),
  (37, .iload_n 1, 38, 0, 0),
  (38, .tableswitch 169 3 14 #[62, 71, 79, 88, 97, 114, 169, 169, 169, 126, 143, 152], 100, 0, 0),
  (100, .aload_n 0, 101, 0, 0),
  (101, .getfield 66, 104, 0, 11),
  (104, .getfield 190, 107, 3, 18),
  (107, .i2l, 108, 0, 0),
  (108, .lreturn, 109, 0, 0),
  (109, .aload_n 0, 110, 0, 0),
  (110, .getfield 66, 113, 0, 11),
  (113, .getfield 335, 116, 3, 19),
  (116, .lreturn, 117, 0, 0),
  (117, .aload_n 0, 118, 0, 0),
  (118, .getfield 66, 121, 0, 11),
  (121, .getfield 338, 124, 3, 14),
  (124, .i2l, 125, 0, 0),
  (125, .lreturn, 126, 0, 0),
  (126, .aload_n 0, 127, 0, 0),
  (127, .getfield 66, 130, 0, 11),
  (130, .invokevirtual 340, 133, 99, 0),
  (133, .i2l, 134, 0, 0),
  (134, .lreturn, 135, 0, 0),
  (135, .iload_n 2, 136, 0, 0),
  (136, .ifCond .eq 14, 139, 150, 0),
  (139, .aload_n 0, 140, 0, 0),
  (140, .getfield 84, 143, 0, 13),
  (143, .invokevirtual 343, 146, 61, 0),
  (146, .i2l, 147, 0, 0),
  (147, .goto 4, 150, 151, 0),
  (150, .lconst 0, 151, 0, 0),
  (151, .lreturn, 152, 0, 0),
  (152, .aload_n 0, 153, 0, 0),
  (153, .getfield 66, 156, 0, 11),
  (156, .getfield 255, 159, 3, 3),
  (159, .getfield 172, 162, 6, 2),
  (162, .i2l, 163, 0, 0),
  (163, .lreturn, 164, 0, 0),
  (164, .iload_n 3, 165, 0, 0),
  (165, .ifCond .eq 14, 168, 179, 0),
  (168, .aload_n 0, 169, 0, 0),
  (169, .getfield 84, 172, 0, 13),
  (172, .getfield 346, 175, 2, 12),
  (175, .i2l, 176, 0, 0),
  (176, .goto 4, 179, 180, 0),
  (179, .lconst 0, 180, 0, 0),
  (180, .lreturn, 181, 0, 0),
  (181, .aload_n 0, 182, 0, 0),
  (182, .getfield 66, 185, 0, 11),
  (185, .getfield 349, 188, 3, 17),
  (188, .i2l, 189, 0, 0),
  (189, .lreturn, 190, 0, 0),
  (190, .iload_n 3, 191, 0, 0),
  (191, .ifCond .eq 14, 194, 205, 0),
  (194, .aload_n 0, 195, 0, 0),
  (195, .getfield 75, 198, 0, 12),
  (198, .getfield 352, 201, 9, 4),
  (201, .i2l, 202, 0, 0),
  (202, .goto 4, 205, 206, 0),
  (205, .lconst 0, 206, 0, 0),
  (206, .lreturn, 207, 0, 0),
  (207, .iload_n 2, 208, 0, 0),
  (208, .ifCond .eq 13, 211, 221, 0),
  (211, .aload_n 0, 212, 0, 0),
  (212, .getfield 84, 215, 0, 13),
  (215, .getfield 353, 218, 2, 17),
  (218, .goto 4, 221, 222, 0),
  (221, .lconst 0, 222, 0, 0),
  (222, .lreturn, 223, 0, 0)]
theorem pg_d38 : ∀ q ∈ pg_L38, decode prog_1_method_26_code q.1 = .ok (q.2.1, q.2.2.1 - q.1) := by decide +kernel
def pg_L39 : List (Nat × Instr × Nat × Nat × Nat) := [
  (0, .aload_n 0, 1, 0, 0),
  (1, .invokespecial 3, 4, 9006, 0),
  (4, .aload_n 0, 5, 0, 0),
  (5, .aload_n 1, 6, 0, 0),
  (6, .putfield 9, 9, 1, 0),
  (9, .aload_n 0, 10, 0, 0),
  (10, .aload_n 2, 11, 0, 0),
  (11, .putfield 15, 14, 1, 1),
  (14, .aload_n 0, 15, 0, 0),
  (15, .aload_n 3, 16, 0, 0),
  (16, .putfield 19, 19, 1, 2),
  (19, .aload_n 0, 20, 0, 0),
  (20, .aload 4, 22, 0, 0),
  (22, .putfield 23, 25, 1, 3),
  (25, .aload_n 0, 26, 0, 0),
  (26, .new 27, 29, 10, 0),
  (29, .dup, 30, 0, 0),
  (30, .ldc 29, 32, 0, 0),
  (32, .invokespecial 30, 35, 166, 1),
  (35, .putfield 33, 38, 1, 4),
  (38, .return_, 39, 0, 0)]
theorem pg_d39 : ∀ q ∈ pg_L39, decode prog_2_method_1_code q.1 = .ok (q.2.1, q.2.2.1 - q.1) := by decide +kernel
def pg_L40 : List (Nat × Instr × Nat × Nat × Nat) := [
  (0, .aload_n 0, 1, 0, 0),
  (1, .invokevirtual 36, 4, 41, 0),
  (4, .iconst 0, 5, 0, 0),
  (5, .istore_n 1, 6, 0, 0),
  (6, .iload_n 1, 7, 0, 0),
  (7, .iconst 3, 8, 0, 0),
  (8, .if_icmp .ge 35, 11, 43, 0),
  (11, .aload_n 0, 12, 0, 0),
  (12, .getfield 15, 15, 1, 1),
  (15, .getfield 39, 18, 2, 4),
  (18, .iload_n 1, 19, 0, 0),
  (19, .baload, 20, 0, 0),
  (20, .ifCond .eq 17, 23, 37, 0),
  (23, .aload_n 0, 24, 0, 0),
  (24, .iconst 1, 25, 0, 0),
  (25, .getstatic 45, 28, 2, 0),
  (28, .iload_n 1, 29, 0, 0),
  (29, .iaload, 30, 0, 0),
  (30, .iload_n 1, 31, 0, 0),
  (31, .ldc2_w 49, 34, 14, 0),
  (34, .invokevirtual 51, 37, 42, 4),
  (37, .iinc 1 1, 40, 0, 0),
  (40, .goto (-34), 43, 6, 0),
  (43, .aload_n 0, 44, 0, 0),
  (44, .getfield 15, 47, 1, 1),
  (47, .getfield 39, 50, 2, 4),
  (50, .iconst 3, 51, 0, 0),
  (51, .baload, 52, 0, 0),
  (52, .ifCond .eq 18, 55, 70, 0),
  (55, .aload_n 0, 56, 0, 0),
  (56, .bipush 7, 58, 0, 0),
  (58, .iconst 4, 59, 0, 0),
  (59, .iconst 3, 60, 0, 0),
  (60, .aload_n 0, 61, 0, 0),
  (61, .getfield 15, 64, 1, 1),
  (64, .getfield 55, 67, 2, 16),
  (67, .invokevirtual 51, 70, 42, 4),
  (70, .aload_n 0, 71, 0, 0),
  (71, .getfield 33, 74, 1, 4),
  (74, .aload_n 0, 75, 0, 0),
  (75, .getfield 15, 78, 1, 1),
  (78, .getfield 59, 81, 2, 18),
  (81, .iconst 0, 82, 0, 0),
  (82, .invokevirtual 62, 85, 171, 2),
  (85, .iconst 0, 86, 0, 0),
  (86, .istore_n 1, 87, 0, 0),
  (87, .iload_n 1, 88, 0, 0),
  (88, .aload_n 0, 89, 0, 0),
  (89, .getfield 15, 92, 1, 1),
  (92, .getfield 66, 95, 2, 11),
  (95, .if_icmp .ge 68, 98, 163, 0),
  (98, .aload_n 0, 99, 0, 0),
  (99, .getfield 15, 102, 1, 1),
  (102, .iload_n 1, 103, 0, 0),
  (103, .invokevirtual 70, 106, 57, 1),
  (106, .astore_n 2, 107, 0, 0),
  (107, .aload_n 2, 108, 0, 0),
  (108, .getfield 74, 111, 8, 4),
  (111, .iconst 3, 112, 0, 0),
  (112, .if_icmp .eq 45, 115, 157, 0),
  (115, .aload_n 2, 116, 0, 0),
  (116, .getfield 74, 119, 8, 4),
  (119, .iconst 5, 120, 0, 0),
  (120, .if_icmp .eq 37, 123, 157, 0),
  (123, .aload_n 2, 124, 0, 0),
  (124, .getfield 79, 127, 8, 10),
  (127, .ifCond .ne 30, 130, 157, 0),
  (130, .aload_n 0, 131, 0, 0),
  (131, .getfield 33, 134, 1, 4),
  (134, .aload_n 0, 135, 0, 0),
  (135, .aload_n 2, 136, 0, 0),
  (136, .invokevirtual 83, 139, 43, 1),
  (139, .aload_n 0, 140, 0, 0),
  (140, .getfield 23, 143, 1, 3),
  (143, .getfield 87, 146, 10, 0),
  (146, .aload_n 2, 147, 0, 0),
  (147, .getfield 91, 150, 8, 7),
  (150, .aload_n 2, 151, 0, 0),
  (151, .getfield 94, 154, 8, 5),
  (154, .invokevirtual 97, 157, 172, 4),
  (157, .iinc 1 1, 160, 0, 0),
  (160, .goto (-73), 163, 87, 0),
  (163, .aload_n 0, 164, 0, 0),
  (164, .getfield 15, 167, 1, 1),
  (167, .getfield 101, 170, 2, 5),
  (170, .iconst 1, 171, 0, 0),
  (171, .laload, 172, 0, 0),
  (172, .aload_n 0, 173, 0, 0),
  (173, .getfield 19, 176, 1, 2),
  (176, .getfield 105, 179, 9, 5),
  (179, .ladd, 180, 0, 0),
  (180, .aload_n 0, 181, 0, 0),
  (181, .getfield 15, 184, 1, 1),
  (184, .getfield 110, 187, 2, 6),
  (187, .iconst 1, 188, 0, 0),
  (188, .laload, 189, 0, 0),
  (189, .lsub, 190, 0, 0),
  (190, .l2i, 191, 0, 0),
  (191, .istore_n 1, 192, 0, 0),
  (192, .iconst 0, 193, 0, 0),
  (193, .istore_n 2, 194, 0, 0),
  (194, .iload_n 2, 195, 0, 0),
  (195, .aload_n 0, 196, 0, 0),
  (196, .getfield 19, 199, 1, 2),
  (199, .getfield 113, 202, 9, 3),
  (202, .if_icmp .ge 54, 205, 256, 0),
  (205, .aload_n 0, 206, 0, 0),
  (206, .getfield 33, 209, 1, 4),
  (209, .iload_n 1, 210, 0, 0),
  (210, .aload_n 0, 211, 0, 0),
  (211, .getfield 23, 214, 1, 3),
  (214, .getfield 87, 217, 10, 0),
  (217, .aload_n 0, 218, 0, 0),
  (218, .getfield 19, 221, 1, 2),
  (221, .getfield 114, 224, 9, 1),
  (224, .iload_n 2, 225, 0, 0),
  (225, .iaload, 226, 0, 0),
  (226, .aload_n 0, 227, 0, 0),
  (227, .getfield 19, 230, 1, 2),
  (230, .getfield 117, 233, 9, 2),
  (233, .iload_n 2, 234, 0, 0),
  (234, .iaload, 235, 0, 0),
  (235, .invokevirtual 97, 238, 172, 4),
  (238, .iload_n 1, 239, 0, 0),
  (239, .aload_n 0, 240, 0, 0),
  (240, .getfield 19, 243, 1, 2),
  (243, .getfield 117, 246, 9, 2),
  (246, .iload_n 2, 247, 0, 0),
  (247, .iaload, 248, 0, 0),
  (248, .iadd, 249, 0, 0),
  (249, .istore_n 1, 250, 0, 0),
  (250, .iinc 2 1, 253, 0, 0),
  (253, .goto (-59), 256, 194, 0),
  (256, .aload_n 0, 257, 0, 0),
  (257, .getfield 15, 260, 1, 1),
  (260, .getfield 101, 263, 2, 5),
  (263, .iconst 2, 264, 0, 0),
  (264, .laload, 265, 0, 0),
  (265, .aload_n 0, 266, 0, 0),
  (266, .getfield 15, 269, 1, 1),
  (269, .getfield 120, 272, 2, 13),
  (272, .ladd, 273, 0, 0),
  (273, .aload_n 0, 274, 0, 0),
  (274, .getfield 15, 277, 1, 1),
  (277, .getfield 110, 280, 2, 6),
  (280, .iconst 2, 281, 0, 0),
  (281, .laload, 282, 0, 0),
  (282, .lsub, 283, 0, 0),
  (283, .l2i, 284, 0, 0),
  (284, .istore_n 1, 285, 0, 0),
  (285, .iconst 0, 286, 0, 0),
  (286, .istore_n 2, 287, 0, 0),
  (287, .iload_n 2, 288, 0, 0),
  (288, .aload_n 0, 289, 0, 0),
  (289, .getfield 15, 292, 1, 1),
  (292, .getfield 123, 295, 2, 12),
  (295, .if_icmp .ge 32, 298, 327, 0),
  (298, .aload_n 0, 299, 0, 0),
  (299, .getfield 33, 302, 1, 4),
  (302, .iload_n 1, 303, 0, 0),
  (303, .bipush 8, 305, 0, 0),
  (305, .iload_n 2, 306, 0, 0),
  (306, .imul, 307, 0, 0),
  (307, .iadd, 308, 0, 0),
  (308, .bipush 8, 310, 0, 0),
  (310, .aload_n 0, 311, 0, 0),
  (311, .getfield 15, 314, 1, 1),
  (314, .iload_n 2, 315, 0, 0),
  (315, .invokevirtual 126, 318, 69, 1),
  (318, .invokevirtual 130, 321, 173, 3),
  (321, .iinc 2 1, 324, 0, 0),
  (324, .goto (-37), 327, 287, 0),
  (327, .return_, 328, 0, 0)]
theorem pg_d40 : ∀ q ∈ pg_L40, decode prog_2_method_2_code q.1 = .ok (q.2.1, q.2.2.1 - q.1) := by decide +kernel
def pg_L41 : List (Nat × Instr × Nat × Nat × Nat) := [
  (0, .aload_n 0, 1, 0, 0),
  (1, .getfield 9, 4, 1, 0),
  (4, .getfield 134, 7, 3, 3),
  (7, .aload_n 0, 8, 0, 0),
  (8, .getfield 9, 11, 1, 0),
  (11, .getfield 140, 14, 3, 12),
  (14, .invokevirtual 143, 17, 124, 1),
  (17, .astore_n 1, 18, 0, 0),
  (18, .aload_n 0, 19, 0, 0),
  (19, .getfield 33, 22, 1, 4),
  (22, .invokevirtual 149, 25, 168, 0),
  (25, .aload_n 0, 26, 0, 0),
  (26, .getfield 33, 29, 1, 4),
  (29, .getstatic 152, 32, 3, 0),
  (32, .invokevirtual 155, 35, 169, 1),
  (35, .aload_n 0, 36, 0, 0),
  (36, .getfield 33, 39, 1, 4),
  (39, .ldc2_w 159, 42, 15, 0),
  (42, .iconst 0, 43, 0, 0),
  (43, .invokevirtual 62, 46, 171, 2),
  (46, .aload_n 0, 47, 0, 0),
  (47, .getfield 33, 50, 1, 4),
  (50, .iconst 2, 51, 0, 0),
  (51, .ldc2_w 161, 54, 1, 0),
  (54, .invokevirtual 163, 57, 170, 2),
  (57, .aload_n 0, 58, 0, 0),
  (58, .getfield 33, 61, 1, 4),
  (61, .iconst 2, 62, 0, 0),
  (62, .ldc2_w 167, 65, 16, 0),
  (65, .invokevirtual 163, 68, 170, 2),
  (68, .aload_n 0, 69, 0, 0),
  (69, .getfield 33, 72, 1, 4),
  (72, .iconst 4, 73, 0, 0),
  (73, .lconst 1, 74, 0, 0),
  (74, .invokevirtual 163, 77, 170, 2),
  (77, .aload_n 0, 78, 0, 0),
  (78, .getfield 33, 81, 1, 4),
  (81, .bipush 8, 83, 0, 0),
  (83, .aload_n 1, 84, 0, 0),
  (84, .ifnonnull 7, 87, 91, 0),
  (87, .lconst 0, 88, 0, 0),
  (88, .goto 7, 91, 95, 0),
  (91, .aload_n 1, 92, 0, 0),
  (92, .getfield 169, 95, 5, 14),
  (95, .invokevirtual 163, 98, 170, 2),
  (98, .aload_n 0, 99, 0, 0),
  (99, .getfield 33, 102, 1, 4),
  (102, .bipush 8, 104, 0, 0),
  (104, .ldc2_w 172, 107, 17, 0),
  (107, .invokevirtual 163, 110, 170, 2),
  (110, .aload_n 0, 111, 0, 0),
  (111, .getfield 33, 114, 1, 4),
  (114, .bipush 8, 116, 0, 0),
  (116, .lconst 0, 117, 0, 0),
  (117, .invokevirtual 163, 120, 170, 2),
  (120, .aload_n 0, 121, 0, 0),
  (121, .getfield 33, 124, 1, 4),
  (124, .iconst 4, 125, 0, 0),
  (125, .lconst 0, 126, 0, 0),
  (126, .invokevirtual 163, 129, 170, 2),
  (129, .aload_n 0, 130, 0, 0),
  (130, .getfield 33, 133, 1, 4),
  (133, .iconst 2, 134, 0, 0),
  (134, .ldc2_w 172, 137, 17, 0),
  (137, .invokevirtual 163, 140, 170, 2),
  (140, .aload_n 0, 141, 0, 0),
  (141, .getfield 33, 144, 1, 4),
  (144, .iconst 2, 145, 0, 0),
  (145, .ldc2_w 174, 148, 18, 0),
  (148, .invokevirtual 163, 151, 170, 2),
  (151, .aload_n 0, 152, 0, 0),
  (152, .getfield 33, 155, 1, 4),
  (155, .iconst 2, 156, 0, 0),
  (156, .aload_n 0, 157, 0, 0),
  (157, .getfield 15, 160, 1, 1),
  (160, .invokevirtual 176, 163, 61, 0),
  (163, .aload_n 0, 164, 0, 0),
  (164, .getfield 15, 167, 1, 1),
  (167, .getfield 39, 170, 2, 4),
  (170, .iconst 3, 171, 0, 0),
  (171, .baload, 172, 0, 0),
  (172, .ifCond .eq 7, 175, 179, 0),
  (175, .iconst 1, 176, 0, 0),
  (176, .goto 4, 179, 180, 0),
  (179, .iconst 0, 180, 0, 0),
  (180, .iadd, 181, 0, 0),
  (181, .i2l, 182, 0, 0),
  (182, .invokevirtual 163, 185, 170, 2),
  (185, .aload_n 0, 186, 0, 0),
  (186, .getfield 33, 189, 1, 4),
  (189, .bipush 6, 191, 0, 0),
  (191, .lconst 0, 192, 0, 0),
  (192, .invokevirtual 163, 195, 170, 2),
  (195, .return_, 196, 0, 0)]
theorem pg_d41 : ∀ q ∈ pg_L41, decode prog_2_method_3_code q.1 = .ok (q.2.1, q.2.2.1 - q.1) := by decide +kernel
def pg_L42 : List (Nat × Instr × Nat × Nat × Nat) := [
  (0, .aload_n 0, 1, 0, 0),
  (1, .getfield 33, 4, 1, 4),
  (4, .iconst 4, 5, 0, 0),
  (5, .iload_n 1, 6, 0, 0),
  (6, .i2l, 7, 0, 0),
  (7, .invokevirtual 163, 10, 170, 2),
  (10, .aload_n 0, 11, 0, 0),
  (11, .getfield 33, 14, 1, 4),
  (14, .iconst 4, 15, 0, 0),
  (15, .iload_n 2, 16, 0, 0),
  (16, .i2l, 17, 0, 0),
  (17, .invokevirtual 163, 20, 170, 2),
  (20, .aload_n 0, 21, 0, 0),
  (21, .getfield 33, 24, 1, 4),
  (24, .bipush 8, 26, 0, 0),
  (26, .aload_n 0, 27, 0, 0),
  (27, .getfield 15, 30, 1, 1),
  (30, .getfield 101, 33, 2, 5),
  (33, .iload_n 3, 34, 0, 0),
  (34, .laload, 35, 0, 0),
  (35, .invokevirtual 163, 38, 170, 2),
  (38, .aload_n 0, 39, 0, 0),
  (39, .getfield 33, 42, 1, 4),
  (42, .bipush 8, 44, 0, 0),
  (44, .aload_n 0, 45, 0, 0),
  (45, .getfield 15, 48, 1, 1),
  (48, .getfield 110, 51, 2, 6),
  (51, .iload_n 3, 52, 0, 0),
  (52, .laload, 53, 0, 0),
  (53, .invokevirtual 163, 56, 170, 2),
  (56, .aload_n 0, 57, 0, 0),
  (57, .getfield 33, 60, 1, 4),
  (60, .bipush 8, 62, 0, 0),
  (62, .aload_n 0, 63, 0, 0),
  (63, .getfield 15, 66, 1, 1),
  (66, .getfield 110, 69, 2, 6),
  (69, .iload_n 3, 70, 0, 0),
  (70, .laload, 71, 0, 0),
  (71, .invokevirtual 163, 74, 170, 2),
  (74, .aload_n 0, 75, 0, 0),
  (75, .getfield 33, 78, 1, 4),
  (78, .bipush 8, 80, 0, 0),
  (80, .aload_n 0, 81, 0, 0),
  (81, .getfield 15, 84, 1, 1),
  (84, .getfield 180, 87, 2, 7),
  (87, .iload_n 3, 88, 0, 0),
  (88, .laload, 89, 0, 0),
  (89, .invokevirtual 163, 92, 170, 2),
  (92, .aload_n 0, 93, 0, 0),
  (93, .getfield 33, 96, 1, 4),
  (96, .bipush 8, 98, 0, 0),
  (98, .aload_n 0, 99, 0, 0),
  (99, .getfield 15, 102, 1, 1),
  (102, .getfield 183, 105, 2, 8),
  (105, .iload_n 3, 106, 0, 0),
  (106, .laload, 107, 0, 0),
  (107, .invokevirtual 163, 110, 170, 2),
  (110, .aload_n 0, 111, 0, 0),
  (111, .getfield 33, 114, 1, 4),
  (114, .bipush 8, 116, 0, 0),
  (116, .lload 4, 118, 0, 0),
  (118, .invokevirtual 163, 121, 170, 2),
  (121, .return_, 122, 0, 0)]
theorem pg_d42 : ∀ q ∈ pg_L42, decode prog_2_method_4_code q.1 = .ok (q.2.1, q.2.2.1 - q.1) := by decide +kernel
def pg_L43 : List (Nat × Instr × Nat × Nat × Nat) := [
  (0, .aload_n 0, 1, 0, 0),
  (1, .getfield 15, 4, 1, 1),
  (4, .aload_n 1, 5, 0, 0),
  (5, .invokevirtual 186, 8, 58, 1),
  (8, .istore_n 2, 9, 0, 0),
  (9, .aload_n 0, 10, 0, 0),
  (10, .getfield 15, 13, 1, 1),
  (13, .getfield 101, 16, 2, 5),
  (16, .iload_n 2, 17, 0, 0),
  (17, .laload, 18, 0, 0),
  (18, .aload_n 1, 19, 0, 0),
  (19, .getfield 189, 22, 8, 11),
  (22, .ladd, 23, 0, 0),
  (23, .aload_n 0, 24, 0, 0),
  (24, .getfield 15, 27, 1, 1),
  (27, .getfield 110, 30, 2, 6),
  (30, .iload_n 2, 31, 0, 0),
  (31, .laload, 32, 0, 0),
  (32, .lsub, 33, 0, 0),
  (33, .l2i, 34, 0, 0),
  (34, .ireturn, 35, 0, 0)]
theorem pg_d43 : ∀ q ∈ pg_L43, decode prog_2_method_5_code q.1 = .ok (q.2.1, q.2.2.1 - q.1) := by decide +kernel
def pg_L44 : List (Nat × Instr × Nat × Nat × Nat) := [
  (0, .iconst 0, 1, 0, 0),
  (1, .istore_n 1, 2, 0, 0),
  (2, .iload_n 1, 3, 0, 0),
  (3, .aload_n 0, 4, 0, 0),
  (4, .getfield 9, 7, 1, 0),
  (7, .getfield 190, 10, 3, 14),
  (10, .if_icmp .ge 132, 13, 142, 0),
  (13, .aload_n 0, 14, 0, 0),
  (14, .getfield 9, 17, 1, 0),
  (17, .iload_n 1, 18, 0, 0),
  (18, .invokevirtual 193, 21, 94, 1),
  (21, .astore_n 2, 22, 0, 0),
  (22, .iconst 0, 23, 0, 0),
  (23, .istore_n 3, 24, 0, 0),
  (24, .iload_n 3, 25, 0, 0),
  (25, .aload_n 2, 26, 0, 0),
  (26, .getfield 197, 29, 7, 8),
  (29, .if_icmp .ge 107, 32, 136, 0),
  (32, .aload_n 0, 33, 0, 0),
  (33, .getfield 9, 36, 1, 0),
  (36, .iload_n 1, 37, 0, 0),
  (37, .iload_n 3, 38, 0, 0),
  (38, .invokevirtual 202, 41, 97, 2),
  (41, .astore 4, 43, 0, 0),
  (43, .aload 4, 45, 0, 0),
  (45, .ifnonnull 7, 48, 52, 0),
  (48, .iconst 0, 49, 0, 0),
  (49, .goto 8, 52, 57, 0),
  (52, .aload_n 2, 53, 0, 0),
  (53, .iload_n 3, 54, 0, 0),
  (54, .invokevirtual 206, 57, 139, 1),
  (57, .istore 5, 59, 0, 0),
  (59, .aload_n 2, 60, 0, 0),
  (60, .iload_n 3, 61, 0, 0),
  (61, .invokevirtual 210, 64, 130, 1),
  (64, .l2i, 65, 0, 0),
  (65, .istore 6, 67, 0, 0),
  (67, .iconst 0, 68, 0, 0),
  (68, .istore 7, 70, 0, 0),
  (70, .iload 7, 72, 0, 0),
  (72, .iload 5, 74, 0, 0),
  (74, .if_icmp .ge 56, 77, 130, 0),
  (77, .aload_n 0, 78, 0, 0),
  (78, .iload_n 1, 79, 0, 0),
  (79, .iload 6, 81, 0, 0),
  (81, .bipush 24, 83, 0, 0),
  (83, .iload 7, 85, 0, 0),
  (85, .imul, 86, 0, 0),
  (86, .iadd, 87, 0, 0),
  (87, .aload 4, 89, 0, 0),
  (89, .invokevirtual 213, 92, 45, 3),
  (92, .ifCond .ne 32, 95, 124, 0),
  (95, .aload_n 0, 96, 0, 0),
  (96, .getfield 9, 99, 1, 0),
  (99, .aload 4, 101, 0, 0),
  (101, .getfield 189, 104, 8, 11),
  (104, .aload_n 2, 105, 0, 0),
  (105, .iload 6, 107, 0, 0),
  (107, .bipush 24, 109, 0, 0),
  (109, .iload 7, 111, 0, 0),
  (111, .imul, 112, 0, 0),
  (112, .iadd, 113, 0, 0),
  (113, .bipush 8, 115, 0, 0),
  (115, .invokevirtual 217, 118, 128, 2),
  (118, .ladd, 119, 0, 0),
  (119, .putfield 221, 122, 3, 19),
  (122, .iconst 0, 123, 0, 0),
  (123, .ireturn, 124, 0, 0),
  (124, .iinc 7 1, 127, 0, 0),
  (127, .goto (-57), 130, 70, 0),
  (130, .iinc 3 1, 133, 0, 0),
  (133, .goto (-109), 136, 24, 0),
  (136, .iinc 1 1, 139, 0, 0),
  (139, .goto (-137), 142, 2, 0),
  (142, .iconst 1, 143, 0, 0),
  (143, .ireturn, 144, 0, 0)]
theorem pg_d44 : ∀ q ∈ pg_L44, decode prog_2_method_6_code q.1 = .ok (q.2.1, q.2.2.1 - q.1) := by decide +kernel
def pg_L45 : List (Nat × Instr × Nat × Nat × Nat) := [
  (0, .aload_n 0, 1, 0, 0),
  (1, .getfield 9, 4, 1, 0),
  (4, .iload_n 1, 5, 0, 0),
  (5, .invokevirtual 193, 8, 94, 1),
  (8, .astore 4, 10, 0, 0),
  (10, .aload 4, 12, 0, 0),
  (12, .iload_n 2, 13, 0, 0),
  (13, .bipush 8, 15, 0, 0),
  (15, .iadd, 16, 0, 0),
  (16, .iconst 4, 17, 0, 0),
  (17, .invokevirtual 217, 20, 128, 2),
  (20, .l2i, 21, 0, 0),
  (21, .istore 5, 23, 0, 0),
  (23, .iload 5, 25, 0, 0),
  (25, .i2l, 26, 0, 0),
  (26, .invokestatic 224, 29, 4, 1),
  (29, .istore 6, 31, 0, 0),
  (31, .aload 4, 33, 0, 0),
  (33, .iload_n 2, 34, 0, 0),
  (34, .bipush 8, 36, 0, 0),
  (36, .invokevirtual 217, 39, 128, 2),
  (39, .l2i, 40, 0, 0),
  (40, .istore 7, 42, 0, 0),
  (42, .iload 6, 44, 0, 0),
  (44, .ifCond .gt 5, 47, 49, 0),
  (47, .iconst 1, 48, 0, 0),
  (48, .ireturn, 49, 0, 0),
  (49, .aload_n 0, 50, 0, 0),
  (50, .getfield 9, 53, 1, 0),
  (53, .iload_n 1, 54, 0, 0),
  (54, .iload_n 2, 55, 0, 0),
  (55, .aload_n 3, 56, 0, 0),
  (56, .invokevirtual 228, 59, 98, 3),
  (59, .ifCond .eq 11, 62, 70, 0),
  (62, .aload_n 0, 63, 0, 0),
  (63, .iload_n 1, 64, 0, 0),
  (64, .iload_n 2, 65, 0, 0),
  (65, .aload_n 3, 66, 0, 0),
  (66, .invokevirtual 231, 69, 46, 3),
  (69, .ireturn, 70, 0, 0),
  (70, .aload 4, 72, 0, 0),
  (72, .iload_n 2, 73, 0, 0),
  (73, .bipush 12, 75, 0, 0),
  (75, .iadd, 76, 0, 0),
  (76, .iconst 4, 77, 0, 0),
  (77, .invokevirtual 217, 80, 128, 2),
  (80, .l2i, 81, 0, 0),
  (81, .istore 8, 83, 0, 0),
  (83, .aload 4, 85, 0, 0),
  (85, .iload_n 2, 86, 0, 0),
  (86, .bipush 16, 88, 0, 0),
  (88, .iadd, 89, 0, 0),
  (89, .bipush 8, 91, 0, 0),
  (91, .invokevirtual 217, 94, 128, 2),
  (94, .lstore 9, 96, 0, 0),
  (96, .iload 5, 98, 0, 0),
  (98, .bipush 9, 100, 0, 0),
  (100, .if_icmp .eq 17, 103, 117, 0),
  (103, .iload 5, 105, 0, 0),
  (105, .bipush 22, 107, 0, 0),
  (107, .if_icmp .eq 10, 110, 117, 0),
  (110, .iload 5, 112, 0, 0),
  (112, .bipush 23, 114, 0, 0),
  (114, .if_icmp .le 7, 117, 121, 0),
  (117, .iconst 1, 118, 0, 0),
  (118, .goto 4, 121, 122, 0),
  (121, .iconst 0, 122, 0, 0),
  (122, .istore 11, 124, 0, 0),
  (124, .iload 11, 126, 0, 0),
  (126, .ifCond .eq 28, 129, 154, 0),
  (129, .aload_n 0, 130, 0, 0),
  (130, .iload_n 1, 131, 0, 0),
  (131, .iload 8, 133, 0, 0),
  (133, .iload 5, 135, 0, 0),
  (135, .bipush 22, 137, 0, 0),
  (137, .if_icmp .ne 7, 140, 144, 0),
  (140, .iconst 1, 141, 0, 0),
  (141, .goto 4, 144, 145, 0),
  (144, .iconst 0, 145, 0, 0),
  (145, .invokevirtual 234, 148, 47, 3),
  (148, .lload 9, 150, 0, 0),
  (150, .ladd, 151, 0, 0),
  (151, .goto 14, 154, 165, 0),
  (154, .aload_n 0, 155, 0, 0),
  (155, .iload 5, 157, 0, 0),
  (157, .iload_n 1, 158, 0, 0),
  (158, .iload 8, 160, 0, 0),
  (160, .lload 9, 162, 0, 0),
  (162, .invokevirtual 238, 165, 48, 4),
  (165, .lstore 12, 167, 0, 0),
  (167, .iload 5, 169, 0, 0),
  (169, .bipush 18, 171, 0, 0),
  (171, .if_icmp .eq 10, 174, 181, 0),
  (174, .iload 5, 176, 0, 0),
  (176, .bipush 23, 178, 0, 0),
  (178, .if_icmp .ne 18, 181, 196, 0),
  (181, .lload 12, 183, 0, 0),
  (183, .aload_n 0, 184, 0, 0),
  (184, .getfield 15, 187, 1, 1),
  (187, .getfield 242, 190, 2, 17),
  (190, .lsub, 191, 0, 0),
  (191, .lstore 12, 193, 0, 0),
  (193, .goto 33, 196, 226, 0),
  (196, .iload 5, 198, 0, 0),
  (198, .iconst 2, 199, 0, 0),
  (199, .if_icmp .eq 14, 202, 213, 0),
  (202, .iload 5, 204, 0, 0),
  (204, .iconst 4, 205, 0, 0),
  (205, .if_icmp .eq 8, 208, 213, 0),
  (208, .iload 11, 210, 0, 0),
  (210, .ifCond .eq 16, 213, 226, 0),
  (213, .lload 12, 215, 0, 0),
  (215, .aload_n 3, 216, 0, 0),
  (216, .getfield 189, 219, 8, 11),
  (219, .iload 7, 221, 0, 0),
  (221, .i2l, 222, 0, 0),
  (222, .ladd, 223, 0, 0),
  (223, .lsub, 224, 0, 0),
  (224, .lstore 12, 226, 0, 0),
  (226, .aload_n 0, 227, 0, 0),
  (227, .getfield 33, 230, 1, 4),
  (230, .aload_n 0, 231, 0, 0),
  (231, .aload_n 3, 232, 0, 0),
  (232, .invokevirtual 83, 235, 43, 1),
  (235, .iload 7, 237, 0, 0),
  (237, .iadd, 238, 0, 0),
  (238, .iload 6, 240, 0, 0),
  (240, .lload 12, 242, 0, 0),
  (242, .invokevirtual 130, 245, 173, 3),
  (245, .iload 5, 247, 0, 0),
  (247, .bipush 10, 249, 0, 0),
  (249, .if_icmp .ne 21, 252, 270, 0),
  (252, .lload 12, 254, 0, 0),
  (254, .bipush 32, 256, 0, 0),
  (256, .lushr, 257, 0, 0),
  (257, .lconst 0, 258, 0, 0),
  (258, .lcmp, 259, 0, 0),
  (259, .ifCond .ne 7, 262, 266, 0),
  (262, .iconst 1, 263, 0, 0),
  (263, .goto 22, 266, 285, 0),
  (266, .iconst 0, 267, 0, 0),
  (267, .goto 18, 270, 285, 0),
  (270, .lload 12, 272, 0, 0),
  (272, .lload 12, 274, 0, 0),
  (274, .l2i, 275, 0, 0),
  (275, .i2l, 276, 0, 0),
  (276, .lcmp, 277, 0, 0),
  (277, .ifCond .ne 7, 280, 284, 0),
  (280, .iconst 1, 281, 0, 0),
  (281, .goto 4, 284, 285, 0),
  (284, .iconst 0, 285, 0, 0),
  (285, .istore 14, 287, 0, 0),
  (287, .iload 14, 289, 0, 0),
  (289, .ifCond .ne 10, 292, 299, 0),
  (292, .iload 6, 294, 0, 0),
  (294, .bipush 8, 296, 0, 0),
  (296, .if_icmp .ne 7, 299, 303, 0),
  (299, .iconst 1, 300, 0, 0),
  (300, .goto 4, 303, 304, 0),
  (303, .iconst 0, 304, 0, 0),
  (304, .ireturn, 305, 0, 0)]
theorem pg_d45 : ∀ q ∈ pg_L45, decode prog_2_method_7_code q.1 = .ok (q.2.1, q.2.2.1 - q.1) := by decide +kernel
def pg_L46 : List (Nat × Instr × Nat × Nat × Nat) := [
  (0, .aload_n 0, 1, 0, 0),
  (1, .getfield 9, 4, 1, 0),
  (4, .iload_n 1, 5, 0, 0),
  (5, .invokevirtual 193, 8, 94, 1),
  (8, .astore 4, 10, 0, 0),
  (10, .aload 4, 12, 0, 0),
  (12, .iload_n 2, 13, 0, 0),
  (13, .bipush 8, 15, 0, 0),
  (15, .invokevirtual 217, 18, 128, 2),
  (18, .l2i, 19, 0, 0),
  (19, .istore 5, 21, 0, 0),
  (21, .aload_n 0, 22, 0, 0),
  (22, .aload_n 3, 23, 0, 0),
  (23, .invokevirtual 83, 26, 43, 1),
  (26, .iload 5, 28, 0, 0),
  (28, .iadd, 29, 0, 0),
  (29, .istore 6, 31, 0, 0),
  (31, .aload_n 3, 32, 0, 0),
  (32, .getfield 91, 35, 8, 7),
  (35, .aload 4, 37, 0, 0),
  (37, .getfield 271, 40, 7, 5),
  (40, .isub, 41, 0, 0),
  (41, .iload 5, 43, 0, 0),
  (43, .iadd, 44, 0, 0),
  (44, .iconst 2, 45, 0, 0),
  (45, .isub, 46, 0, 0),
  (46, .istore 7, 48, 0, 0),
  (48, .aload_n 3, 49, 0, 0),
  (49, .getfield 189, 52, 8, 11),
  (52, .iload 5, 54, 0, 0),
  (54, .i2l, 55, 0, 0),
  (55, .ladd, 56, 0, 0),
  (56, .lstore 8, 58, 0, 0),
  (58, .aload_n 0, 59, 0, 0),
  (59, .getfield 15, 62, 1, 1),
  (62, .iload_n 1, 63, 0, 0),
  (63, .aload 4, 65, 0, 0),
  (65, .iload_n 2, 66, 0, 0),
  (66, .bipush 12, 68, 0, 0),
  (68, .iadd, 69, 0, 0),
  (69, .iconst 4, 70, 0, 0),
  (70, .invokevirtual 217, 73, 128, 2),
  (73, .l2i, 74, 0, 0),
  (74, .invokevirtual 268, 77, 70, 2),
  (77, .aload 4, 79, 0, 0),
  (79, .iload_n 2, 80, 0, 0),
  (80, .bipush 16, 82, 0, 0),
  (82, .iadd, 83, 0, 0),
  (83, .bipush 8, 85, 0, 0),
  (85, .invokevirtual 217, 88, 128, 2),
  (88, .ladd, 89, 0, 0),
  (89, .lload 8, 91, 0, 0),
  (91, .lsub, 92, 0, 0),
  (92, .lstore 10, 94, 0, 0),
  (94, .aload 4, 96, 0, 0),
  (96, .iload 7, 98, 0, 0),
  (98, .iconst 1, 99, 0, 0),
  (99, .invokevirtual 217, 102, 128, 2),
  (102, .ldc2_w 273, 105, 19, 0),
  (105, .lcmp, 106, 0, 0),
  (106, .ifCond .ne 33, 109, 139, 0),
  (109, .aload_n 0, 110, 0, 0),
  (110, .getfield 33, 113, 1, 4),
  (113, .iload 6, 115, 0, 0),
  (115, .iconst 2, 116, 0, 0),
  (116, .isub, 117, 0, 0),
  (117, .iconst 1, 118, 0, 0),
  (118, .ldc2_w 275, 121, 20, 0),
  (121, .invokevirtual 130, 124, 173, 3),
  (124, .aload_n 0, 125, 0, 0),
  (125, .getfield 33, 128, 1, 4),
  (128, .iload 6, 130, 0, 0),
  (130, .iconst 4, 131, 0, 0),
  (131, .lload 10, 133, 0, 0),
  (133, .invokevirtual 130, 136, 173, 3),
  (136, .goto 100, 139, 236, 0),
  (139, .aload 4, 141, 0, 0),
  (141, .iload 7, 143, 0, 0),
  (143, .iconst 1, 144, 0, 0),
  (144, .iadd, 145, 0, 0),
  (145, .iconst 1, 146, 0, 0),
  (146, .invokevirtual 217, 149, 128, 2),
  (149, .ldc2_w 277, 152, 21, 0),
  (152, .lcmp, 153, 0, 0),
  (153, .ifCond .ne 33, 156, 186, 0),
  (156, .aload_n 0, 157, 0, 0),
  (157, .getfield 33, 160, 1, 4),
  (160, .iload 6, 162, 0, 0),
  (162, .iconst 2, 163, 0, 0),
  (163, .isub, 164, 0, 0),
  (164, .iconst 2, 165, 0, 0),
  (165, .ldc2_w 279, 168, 22, 0),
  (168, .invokevirtual 130, 171, 173, 3),
  (171, .aload_n 0, 172, 0, 0),
  (172, .getfield 33, 175, 1, 4),
  (175, .iload 6, 177, 0, 0),
  (177, .iconst 4, 178, 0, 0),
  (178, .lload 10, 180, 0, 0),
  (180, .invokevirtual 130, 183, 173, 3),
  (183, .goto 53, 186, 236, 0),
  (186, .lload 10, 188, 0, 0),
  (188, .lconst 1, 189, 0, 0),
  (189, .ladd, 190, 0, 0),
  (190, .lstore 10, 192, 0, 0),
  (192, .aload_n 0, 193, 0, 0),
  (193, .getfield 33, 196, 1, 4),
  (196, .iload 6, 198, 0, 0),
  (198, .iconst 2, 199, 0, 0),
  (199, .isub, 200, 0, 0),
  (200, .iconst 1, 201, 0, 0),
  (201, .ldc2_w 281, 204, 23, 0),
  (204, .invokevirtual 130, 207, 173, 3),
  (207, .aload_n 0, 208, 0, 0),
  (208, .getfield 33, 211, 1, 4),
  (211, .iload 6, 213, 0, 0),
  (213, .iconst 1, 214, 0, 0),
  (214, .isub, 215, 0, 0),
  (215, .iconst 4, 216, 0, 0),
  (216, .lload 10, 218, 0, 0),
  (218, .invokevirtual 130, 221, 173, 3),
  (221, .aload_n 0, 222, 0, 0),
  (222, .getfield 33, 225, 1, 4),
  (225, .iload 6, 227, 0, 0),
  (227, .iconst 3, 228, 0, 0),
  (228, .iadd, 229, 0, 0),
  (229, .iconst 1, 230, 0, 0),
  (230, .ldc2_w 283, 233, 24, 0),
  (233, .invokevirtual 130, 236, 173, 3),
  (236, .lload 10, 238, 0, 0),
  (238, .lload 10, 240, 0, 0),
  (240, .l2i, 241, 0, 0),
  (241, .i2l, 242, 0, 0),
  (242, .lcmp, 243, 0, 0),
  (243, .ifCond .ne 7, 246, 250, 0),
  (246, .iconst 1, 247, 0, 0),
  (247, .goto 4, 250, 251, 0),
  (250, .iconst 0, 251, 0, 0),
  (251, .ireturn, 252, 0, 0)]
theorem pg_d46 : ∀ q ∈ pg_L46, decode prog_2_method_10_code q.1 = .ok (q.2.1, q.2.2.1 - q.1) := by decide +kernel
def pg_L47 : List (Nat × Instr × Nat × Nat × Nat) := [
  (0, .aload_n 0, 1, 0, 0),
  (1, .getfield 15, 4, 1, 1),
  (4, .getfield 120, 7, 2, 13),
  (7, .ldc2_w 245, 10, 25, 0),
  (10, .aload_n 0, 11, 0, 0),
  (11, .getfield 15, 14, 1, 1),
  (14, .iload_n 1, 15, 0, 0),
  (15, .iload_n 2, 16, 0, 0),
  (16, .iload_n 3, 17, 0, 0),
  (17, .invokevirtual 247, 20, 54, 3),
  (20, .iconst 1, 21, 0, 0),
  (21, .isub, 22, 0, 0),
  (22, .i2l, 23, 0, 0),
  (23, .lmul, 24, 0, 0),
  (24, .ladd, 25, 0, 0),
  (25, .lreturn, 26, 0, 0)]
theorem pg_d47 : ∀ q ∈ pg_L47, decode prog_2_method_8_code q.1 = .ok (q.2.1, q.2.2.1 - q.1) := by decide +kernel
def pg_C2 : List (List (Nat × Instr × Nat × Nat × Nat)) := [pg_L32, pg_L33, pg_L34, pg_L35, pg_L36, pg_L37, pg_L38, pg_L39, pg_L40, pg_L41, pg_L42, pg_L43, pg_L44, pg_L45, pg_L46, pg_L47]
def pg_L48 : List (Nat × Instr × Nat × Nat × Nat) := [
  (0, .aload_n 0, 1, 0, 0),
  (1, .getfield 9, 4, 1, 0),
  (4, .iload_n 2, 5, 0, 0),
  (5, .invokevirtual 193, 8, 94, 1),
  (8, .astore 6, 10, 0, 0),
  (10, .iload_n 1, 11, 0, 0),
  (11, .iconst 1, 12, 0, 0),
  (12, .if_icmp .eq 15, 15, 27, 0),
  (15, .iload_n 1, 16, 0, 0),
  (16, .bipush 10, 18, 0, 0),
  (18, .if_icmp .eq 9, 21, 27, 0),
  (21, .iload_n 1, 22, 0, 0),
  (22, .bipush 11, 24, 0, 0),
  (24, .if_icmp .ne 7, 27, 31, 0),
  (27, .iconst 1, 28, 0, 0),
  (28, .goto 4, 31, 32, 0),
  (31, .iconst 0, 32, 0, 0),
  (32, .istore 7, 34, 0, 0),
  (34, .iload 7, 36, 0, 0),
  (36, .ifCond .eq 72, 39, 108, 0),
  (39, .iload_n 3, 40, 0, 0),
  (40, .ifCond .le 68, 43, 108, 0),
  (43, .aload_n 0, 44, 0, 0),
  (44, .getfield 9, 47, 1, 0),
  (47, .iload_n 2, 48, 0, 0),
  (48, .iload_n 3, 49, 0, 0),
  (49, .invokevirtual 251, 52, 80, 2),
  (52, .ifnonnull 56, 55, 108, 0),
  (55, .aload 6, 57, 0, 0),
  (57, .iload_n 3, 58, 0, 0),
  (58, .invokevirtual 255, 61, 141, 1),
  (61, .iconst 3, 62, 0, 0),
  (62, .if_icmp .ne 46, 65, 108, 0),
  (65, .aload_n 0, 66, 0, 0),
  (66, .getfield 9, 69, 1, 0),
  (69, .iload_n 2, 70, 0, 0),
  (70, .iload_n 3, 71, 0, 0),
  (71, .invokevirtual 258, 74, 96, 2),
  (74, .astore 8, 76, 0, 0),
  (76, .aload 8, 78, 0, 0),
  (78, .ifnull 30, 81, 108, 0),
  (81, .aload 8, 83, 0, 0),
  (83, .getfield 79, 86, 8, 10),
  (86, .ifCond .eq 22, 89, 108, 0),
  (89, .aload_n 0, 90, 0, 0),
  (90, .getfield 19, 93, 1, 2),
  (93, .aload 8, 95, 0, 0),
  (95, .aload 6, 97, 0, 0),
  (97, .iload_n 3, 98, 0, 0),
  (98, .invokevirtual 261, 101, 140, 1),
  (101, .lload 4, 103, 0, 0),
  (103, .ladd, 104, 0, 0),
  (104, .invokevirtual 264, 107, 165, 2),
  (107, .lreturn, 108, 0, 0),
  (108, .aload_n 0, 109, 0, 0),
  (109, .getfield 15, 112, 1, 1),
  (112, .iload_n 2, 113, 0, 0),
  (113, .iload_n 3, 114, 0, 0),
  (114, .invokevirtual 268, 117, 70, 2),
  (117, .lload 4, 119, 0, 0),
  (119, .ladd, 120, 0, 0),
  (120, .lreturn, 121, 0, 0)]
theorem pg_d48 : ∀ q ∈ pg_L48, decode prog_2_method_9_code q.1 = .ok (q.2.1, q.2.2.1 - q.1) := by decide +kernel
def pg_L49 : List (Nat × Instr × Nat × Nat × Nat) := [
  (0, .aload_n 0, 1, 0, 0),
  (1, .invokespecial 3, 4, 9006, 0),
  (4, .aload_n 0, 5, 0, 0),
  (5, .aload_n 1, 6, 0, 0),
  (6, .putfield 9, 9, 2, 0),
  (9, .aload_n 0, 10, 0, 0),
  (10, .aload_n 2, 11, 0, 0),
  (11, .putfield 15, 14, 2, 1),
  (14, .aload_n 0, 15, 0, 0),
  (15, .sipush 1536, 18, 0, 0),
  (18, .anewarray 19, 21, 6, 0),
  (21, .putfield 21, 24, 2, 2),
  (24, .aload_n 0, 25, 0, 0),
  (25, .new 19, 28, 8, 0),
  (28, .dup, 29, 0, 0),
  (29, .invokespecial 25, 32, 159, 0),
  (32, .putfield 26, 35, 2, 3),
  (35, .aload_n 0, 36, 0, 0),
  (36, .iconst 4, 37, 0, 0),
  (37, .newarray .boolean, 39, 3, 0),
  (39, .putfield 30, 42, 2, 4),
  (42, .aload_n 0, 43, 0, 0),
  (43, .iconst 4, 44, 0, 0),
  (44, .newarray .long, 46, 2, 0),
  (46, .putfield 34, 49, 2, 5),
  (49, .aload_n 0, 50, 0, 0),
  (50, .iconst 4, 51, 0, 0),
  (51, .newarray .long, 53, 2, 0),
  (53, .putfield 38, 56, 2, 6),
  (56, .aload_n 0, 57, 0, 0),
  (57, .iconst 4, 58, 0, 0),
  (58, .newarray .long, 60, 2, 0),
  (60, .putfield 41, 63, 2, 7),
  (63, .aload_n 0, 64, 0, 0),
  (64, .iconst 4, 65, 0, 0),
  (65, .newarray .long, 67, 2, 0),
  (67, .putfield 44, 70, 2, 8),
  (70, .aload_n 0, 71, 0, 0),
  (71, .sipush 8192, 74, 0, 0),
  (74, .newarray .int, 76, 1, 0),
  (76, .putfield 47, 79, 2, 9),
  (79, .aload_n 0, 80, 0, 0),
  (80, .sipush 8192, 83, 0, 0),
  (83, .newarray .int, 85, 1, 0),
  (85, .putfield 51, 88, 2, 10),
  (88, .return_, 89, 0, 0)]
theorem pg_d49 : ∀ q ∈ pg_L49, decode prog_3_method_1_code q.1 = .ok (q.2.1, q.2.2.1 - q.1) := by decide +kernel
def pg_L50 : List (Nat × Instr × Nat × Nat × Nat) := [
  (0, .aload_n 0, 1, 0, 0),
  (1, .invokevirtual 70, 4, 51, 0),
  (4, .aload_n 0, 5, 0, 0),
  (5, .invokevirtual 73, 8, 52, 0),
  (8, .aload_n 0, 9, 0, 0),
  (9, .invokevirtual 76, 12, 56, 0),
  (12, .aload_n 0, 13, 0, 0),
  (13, .invokevirtual 79, 16, 60, 0),
  (16, .iconst 0, 17, 0, 0),
  (17, .istore_n 1, 18, 0, 0),
  (18, .iload_n 1, 19, 0, 0),
  (19, .aload_n 0, 20, 0, 0),
  (20, .getfield 54, 23, 2, 11),
  (23, .if_icmp .ge 35, 26, 58, 0),
  (26, .aload_n 0, 27, 0, 0),
  (27, .iload_n 1, 28, 0, 0),
  (28, .invokevirtual 82, 31, 57, 1),
  (31, .astore_n 2, 32, 0, 0),
  (32, .aload_n 2, 33, 0, 0),
  (33, .getfield 86, 36, 8, 10),
  (36, .ifCond .eq 16, 39, 52, 0),
  (39, .aload_n 2, 40, 0, 0),
  (40, .aload_n 0, 41, 0, 0),
  (41, .getfield 15, 44, 2, 1),
  (44, .aload_n 2, 45, 0, 0),
  (45, .lconst 0, 46, 0, 0),
  (46, .invokevirtual 90, 49, 165, 2),
  (49, .putfield 96, 52, 8, 11),
  (52, .iinc 1 1, 55, 0, 0),
  (55, .goto (-37), 58, 18, 0),
  (58, .iconst 0, 59, 0, 0),
  (59, .istore_n 1, 60, 0, 0),
  (60, .iload_n 1, 61, 0, 0),
  (61, .aload_n 0, 62, 0, 0),
  (62, .getfield 9, 65, 2, 0),
  (65, .getfield 99, 68, 3, 3),
  (68, .getfield 105, 71, 6, 2),
  (71, .if_icmp .ge 30, 74, 101, 0),
  (74, .aload_n 0, 75, 0, 0),
  (75, .getfield 9, 78, 2, 0),
  (78, .getfield 99, 81, 3, 3),
  (81, .iload_n 1, 82, 0, 0),
  (82, .invokevirtual 108, 85, 122, 1),
  (85, .astore_n 2, 86, 0, 0),
  (86, .aload_n 2, 87, 0, 0),
  (87, .aload_n 0, 88, 0, 0),
  (88, .aload_n 2, 89, 0, 0),
  (89, .invokevirtual 112, 92, 66, 1),
  (92, .putfield 116, 95, 5, 14),
  (95, .iinc 1 1, 98, 0, 0),
  (98, .goto (-38), 101, 60, 0),
  (101, .return_, 102, 0, 0)]
theorem pg_d50 : ∀ q ∈ pg_L50, decode prog_3_method_6_code q.1 = .ok (q.2.1, q.2.2.1 - q.1) := by decide +kernel
def pg_L51 : List (Nat × Instr × Nat × Nat × Nat) := [
  (0, .aload_n 0, 1, 0, 0),
  (1, .iconst 0, 2, 0, 0),
  (2, .putfield 54, 5, 2, 11),
  (5, .aload_n 0, 6, 0, 0),
  (6, .getfield 15, 9, 2, 1),
  (9, .invokevirtual 119, 12, 161, 0),
  (12, .iconst 0, 13, 0, 0),
  (13, .istore_n 1, 14, 0, 0),
  (14, .iload_n 1, 15, 0, 0),
  (15, .getstatic 122, 18, 4, 0),
  (18, .arraylength, 19, 0, 0),
  (19, .if_icmp .ge 113, 22, 132, 0),
  (22, .iconst 0, 23, 0, 0),
  (23, .istore_n 2, 24, 0, 0),
  (24, .iload_n 2, 25, 0, 0),
  (25, .aload_n 0, 26, 0, 0),
  (26, .getfield 9, 29, 2, 0),
  (29, .getfield 125, 32, 3, 14),
  (32, .bipush 24, 34, 0, 0),
  (34, .imul, 35, 0, 0),
  (35, .if_icmp .ge 91, 38, 126, 0),
  (38, .aload_n 0, 39, 0, 0),
  (39, .getfield 9, 42, 2, 0),
  (42, .iload_n 2, 43, 0, 0),
  (43, .bipush 24, 45, 0, 0),
  (45, .idiv, 46, 0, 0),
  (46, .iload_n 2, 47, 0, 0),
  (47, .bipush 24, 49, 0, 0),
  (49, .irem, 50, 0, 0),
  (50, .invokevirtual 128, 53, 77, 2),
  (53, .astore_n 3, 54, 0, 0),
  (54, .aload_n 3, 55, 0, 0),
  (55, .getfield 132, 58, 8, 9),
  (58, .ifCond .eq 62, 61, 120, 0),
  (61, .aload_n 3, 62, 0, 0),
  (62, .getfield 58, 65, 8, 4),
  (65, .getstatic 122, 68, 4, 0),
  (68, .iload_n 1, 69, 0, 0),
  (69, .iaload, 70, 0, 0),
  (70, .if_icmp .ne 50, 73, 120, 0),
  (73, .aload_n 0, 74, 0, 0),
  (74, .getfield 54, 77, 2, 11),
  (77, .aload_n 0, 78, 0, 0),
  (78, .getfield 21, 81, 2, 2),
  (81, .arraylength, 82, 0, 0),
  (82, .if_icmp .ge 38, 85, 120, 0),
  (85, .aload_n 0, 86, 0, 0),
  (86, .getfield 21, 89, 2, 2),
  (89, .aload_n 0, 90, 0, 0),
  (90, .getfield 54, 93, 2, 11),
  (93, .aload_n 3, 94, 0, 0),
  (94, .aastore, 95, 0, 0),
  (95, .aload_n 0, 96, 0, 0),
  (96, .dup, 97, 0, 0),
  (97, .getfield 54, 100, 2, 11),
  (100, .iconst 1, 101, 0, 0),
  (101, .iadd, 102, 0, 0),
  (102, .putfield 54, 105, 2, 11),
  (105, .aload_n 3, 106, 0, 0),
  (106, .getfield 86, 109, 8, 10),
  (109, .ifCond .eq 11, 112, 120, 0),
  (112, .aload_n 0, 113, 0, 0),
  (113, .getfield 15, 116, 2, 1),
  (116, .aload_n 3, 117, 0, 0),
  (117, .invokevirtual 135, 120, 162, 1),
  (120, .iinc 2 1, 123, 0, 0),
  (123, .goto (-99), 126, 24, 0),
  (126, .iinc 1 1, 129, 0, 0),
  (129, .goto (-115), 132, 14, 0),
  (132, .return_, 133, 0, 0)]
theorem pg_d51 : ∀ q ∈ pg_L51, decode prog_3_method_7_code q.1 = .ok (q.2.1, q.2.2.1 - q.1) := by decide +kernel
def pg_L52 : List (Nat × Instr × Nat × Nat × Nat) := [
  (0, .aload_n 0, 1, 0, 0),
  (1, .iconst 0, 2, 0, 0),
  (2, .putfield 139, 5, 2, 12),
  (5, .aload_n 0, 6, 0, 0),
  (6, .lconst 0, 7, 0, 0),
  (7, .putfield 142, 10, 2, 13),
  (10, .aload_n 0, 11, 0, 0),
  (11, .getfield 51, 14, 2, 10),
  (14, .iconst 0, 15, 0, 0),
  (15, .iconst 2, 16, 0, 0),
  (16, .aload_n 0, 17, 0, 0),
  (17, .getfield 9, 20, 2, 0),
  (20, .getfield 125, 23, 3, 14),
  (23, .imul, 24, 0, 0),
  (24, .bipush 64, 26, 0, 0),
  (26, .imul, 27, 0, 0),
  (27, .aload_n 0, 28, 0, 0),
  (28, .getfield 51, 31, 2, 10),
  (31, .arraylength, 32, 0, 0),
  (32, .invokestatic 145, 35, 9002, 0),
  (35, .iconst 0, 36, 0, 0),
  (36, .invokestatic 151, 39, 378, 4),
  (39, .iconst 0, 40, 0, 0),
  (40, .istore_n 1, 41, 0, 0),
  (41, .iload_n 1, 42, 0, 0),
  (42, .aload_n 0, 43, 0, 0),
  (43, .getfield 9, 46, 2, 0),
  (46, .getfield 125, 49, 3, 14),
  (49, .if_icmp .ge 100, 52, 149, 0),
  (52, .aload_n 0, 53, 0, 0),
  (53, .getfield 9, 56, 2, 0),
  (56, .iload_n 1, 57, 0, 0),
  (57, .invokevirtual 157, 60, 94, 1),
  (60, .astore_n 2, 61, 0, 0),
  (61, .iconst 0, 62, 0, 0),
  (62, .istore_n 3, 63, 0, 0),
  (63, .iload_n 3, 64, 0, 0),
  (64, .aload_n 2, 65, 0, 0),
  (65, .getfield 161, 68, 7, 8),
  (68, .if_icmp .ge 75, 71, 143, 0),
  (71, .aload_n 0, 72, 0, 0),
  (72, .getfield 9, 75, 2, 0),
  (75, .iload_n 1, 76, 0, 0),
  (76, .iload_n 3, 77, 0, 0),
  (77, .invokevirtual 166, 80, 97, 2),
  (80, .astore 4, 82, 0, 0),
  (82, .aload 4, 84, 0, 0),
  (84, .ifnonnull 7, 87, 91, 0),
  (87, .iconst 0, 88, 0, 0),
  (88, .goto 8, 91, 96, 0),
  (91, .aload_n 2, 92, 0, 0),
  (92, .iload_n 3, 93, 0, 0),
  (93, .invokevirtual 169, 96, 139, 1),
  (96, .istore 5, 98, 0, 0),
  (98, .aload_n 2, 99, 0, 0),
  (99, .iload_n 3, 100, 0, 0),
  (100, .invokevirtual 173, 103, 130, 1),
  (103, .l2i, 104, 0, 0),
  (104, .istore 6, 106, 0, 0),
  (106, .iconst 0, 107, 0, 0),
  (107, .istore 7, 109, 0, 0),
  (109, .iload 7, 111, 0, 0),
  (111, .iload 5, 113, 0, 0),
  (113, .if_icmp .ge 24, 116, 137, 0),
  (116, .aload_n 0, 117, 0, 0),
  (117, .iload_n 1, 118, 0, 0),
  (118, .iload 6, 120, 0, 0),
  (120, .bipush 24, 122, 0, 0),
  (122, .iload 7, 124, 0, 0),
  (124, .imul, 125, 0, 0),
  (125, .iadd, 126, 0, 0),
  (126, .aload 4, 128, 0, 0),
  (128, .invokevirtual 177, 131, 53, 3),
  (131, .iinc 7 1, 134, 0, 0),
  (134, .goto (-25), 137, 109, 0),
  (137, .iinc 3 1, 140, 0, 0),
  (140, .goto (-77), 143, 63, 0),
  (143, .iinc 1 1, 146, 0, 0),
  (146, .goto (-105), 149, 41, 0),
  (149, .return_, 150, 0, 0)]
theorem pg_d52 : ∀ q ∈ pg_L52, decode prog_3_method_8_code q.1 = .ok (q.2.1, q.2.2.1 - q.1) := by decide +kernel
def pg_L53 : List (Nat × Instr × Nat × Nat × Nat) := [
  (0, .aload_n 0, 1, 0, 0),
  (1, .getfield 9, 4, 2, 0),
  (4, .iload_n 1, 5, 0, 0),
  (5, .invokevirtual 157, 8, 94, 1),
  (8, .astore 4, 10, 0, 0),
  (10, .aload 4, 12, 0, 0),
  (12, .iload_n 2, 13, 0, 0),
  (13, .bipush 8, 15, 0, 0),
  (15, .iadd, 16, 0, 0),
  (16, .iconst 4, 17, 0, 0),
  (17, .invokevirtual 181, 20, 128, 2),
  (20, .l2i, 21, 0, 0),
  (21, .istore 5, 23, 0, 0),
  (23, .iload 5, 25, 0, 0),
  (25, .bipush 22, 27, 0, 0),
  (27, .if_icmp .ne 7, 30, 34, 0),
  (30, .iconst 1, 31, 0, 0),
  (31, .goto 4, 34, 35, 0),
  (34, .iconst 0, 35, 0, 0),
  (35, .istore 6, 37, 0, 0),
  (37, .iload 5, 39, 0, 0),
  (39, .bipush 9, 41, 0, 0),
  (41, .if_icmp .eq 30, 44, 71, 0),
  (44, .iload 5, 46, 0, 0),
  (46, .bipush 41, 48, 0, 0),
  (48, .if_icmp .eq 10, 51, 58, 0),
  (51, .iload 5, 53, 0, 0),
  (53, .bipush 42, 55, 0, 0),
  (55, .if_icmp .ne 20, 58, 75, 0),
  (58, .aload_n 0, 59, 0, 0),
  (59, .getfield 9, 62, 2, 0),
  (62, .iload_n 1, 63, 0, 0),
  (63, .iload_n 2, 64, 0, 0),
  (64, .aload_n 3, 65, 0, 0),
  (65, .invokevirtual 185, 68, 98, 3),
  (68, .ifCond .ne 7, 71, 75, 0),
  (71, .iconst 1, 72, 0, 0),
  (72, .goto 4, 75, 76, 0),
  (75, .iconst 0, 76, 0, 0),
  (76, .istore 7, 78, 0, 0),
  (78, .aload 4, 80, 0, 0),
  (80, .iload_n 2, 81, 0, 0),
  (81, .bipush 12, 83, 0, 0),
  (83, .iadd, 84, 0, 0),
  (84, .iconst 4, 85, 0, 0),
  (85, .invokevirtual 181, 88, 128, 2),
  (88, .l2i, 89, 0, 0),
  (89, .istore 8, 91, 0, 0),
  (91, .iload 6, 93, 0, 0),
  (93, .ifCond .ne 8, 96, 101, 0),
  (96, .iload 7, 98, 0, 0),
  (98, .ifCond .eq 116, 101, 214, 0),
  (101, .aload_n 0, 102, 0, 0),
  (102, .iload_n 1, 103, 0, 0),
  (103, .iload 8, 105, 0, 0),
  (105, .iload 6, 107, 0, 0),
  (107, .invokevirtual 189, 110, 54, 3),
  (110, .ifCond .ne 104, 113, 214, 0),
  (113, .aload_n 0, 114, 0, 0),
  (114, .getfield 139, 117, 2, 12),
  (117, .aload_n 0, 118, 0, 0),
  (118, .getfield 47, 121, 2, 9),
  (121, .arraylength, 122, 0, 0),
  (122, .if_icmp .ge 92, 125, 214, 0),
  (125, .aload_n 0, 126, 0, 0),
  (126, .iload_n 1, 127, 0, 0),
  (127, .iload 8, 129, 0, 0),
  (129, .iload 6, 131, 0, 0),
  (131, .invokevirtual 193, 134, 55, 3),
  (134, .istore 9, 136, 0, 0),
  (136, .aload_n 0, 137, 0, 0),
  (137, .getfield 47, 140, 2, 9),
  (140, .aload_n 0, 141, 0, 0),
  (141, .getfield 139, 144, 2, 12),
  (144, .iload 9, 146, 0, 0),
  (146, .iastore, 147, 0, 0),
  (147, .aload_n 0, 148, 0, 0),
  (148, .dup, 149, 0, 0),
  (149, .getfield 139, 152, 2, 12),
  (152, .iconst 1, 153, 0, 0),
  (153, .iadd, 154, 0, 0),
  (154, .putfield 139, 157, 2, 12),
  (157, .aload_n 0, 158, 0, 0),
  (158, .getfield 9, 161, 2, 0),
  (161, .iload_n 1, 162, 0, 0),
  (162, .iload 8, 164, 0, 0),
  (164, .invokevirtual 196, 167, 80, 2),
  (167, .astore 10, 169, 0, 0),
  (169, .aload 10, 171, 0, 0),
  (171, .ifnonnull 17, 174, 188, 0),
  (174, .aload_n 0, 175, 0, 0),
  (175, .getfield 51, 178, 2, 10),
  (178, .iload 9, 180, 0, 0),
  (180, .aload_n 0, 181, 0, 0),
  (181, .getfield 139, 184, 2, 12),
  (184, .iastore, 185, 0, 0),
  (185, .goto 29, 188, 214, 0),
  (188, .iload 6, 190, 0, 0),
  (190, .ifCond .eq 15, 193, 205, 0),
  (193, .aload 10, 195, 0, 0),
  (195, .aload_n 0, 196, 0, 0),
  (196, .getfield 139, 199, 2, 12),
  (199, .putfield 200, 202, 5, 16),
  (202, .goto 12, 205, 214, 0),
  (205, .aload 10, 207, 0, 0),
  (207, .aload_n 0, 208, 0, 0),
  (208, .getfield 139, 211, 2, 12),
  (211, .putfield 203, 214, 5, 15),
  (214, .return_, 215, 0, 0)]
theorem pg_d53 : ∀ q ∈ pg_L53, decode prog_3_method_9_code q.1 = .ok (q.2.1, q.2.2.1 - q.1) := by decide +kernel
def pg_L54 : List (Nat × Instr × Nat × Nat × Nat) := [
  (0, .aload_n 0, 1, 0, 0),
  (1, .getfield 9, 4, 2, 0),
  (4, .iload_n 1, 5, 0, 0),
  (5, .iload_n 2, 6, 0, 0),
  (6, .invokevirtual 196, 9, 80, 2),
  (9, .astore 4, 11, 0, 0),
  (11, .aload 4, 13, 0, 0),
  (13, .ifnull 21, 16, 34, 0),
  (16, .iload_n 3, 17, 0, 0),
  (17, .ifCond .eq 11, 20, 28, 0),
  (20, .aload 4, 22, 0, 0),
  (22, .getfield 200, 25, 5, 16),
  (25, .goto 8, 28, 33, 0),
  (28, .aload 4, 30, 0, 0),
  (30, .getfield 203, 33, 5, 15),
  (33, .ireturn, 34, 0, 0),
  (34, .aload_n 0, 35, 0, 0),
  (35, .getfield 51, 38, 2, 10),
  (38, .aload_n 0, 39, 0, 0),
  (39, .iload_n 1, 40, 0, 0),
  (40, .iload_n 2, 41, 0, 0),
  (41, .iload_n 3, 42, 0, 0),
  (42, .invokevirtual 193, 45, 55, 3),
  (45, .iaload, 46, 0, 0),
  (46, .ireturn, 47, 0, 0)]
theorem pg_d54 : ∀ q ∈ pg_L54, decode prog_3_method_11_code q.1 = .ok (q.2.1, q.2.2.1 - q.1) := by decide +kernel
def pg_L55 : List (Nat × Instr × Nat × Nat × Nat) := [
  (0, .iconst 2, 1, 0, 0),
  (1, .iload_n 1, 2, 0, 0),
  (2, .bipush 64, 4, 0, 0),
  (4, .imul, 5, 0, 0),
  (5, .iload_n 2, 6, 0, 0),
  (6, .iadd, 7, 0, 0),
  (7, .imul, 8, 0, 0),
  (8, .iload_n 3, 9, 0, 0),
  (9, .ifCond .eq 7, 12, 16, 0),
  (12, .iconst 1, 13, 0, 0),
  (13, .goto 4, 16, 17, 0),
  (16, .iconst 0, 17, 0, 0),
  (17, .iadd, 18, 0, 0),
  (18, .istore 4, 20, 0, 0),
  (20, .iload 4, 22, 0, 0),
  (22, .ifCond .lt 18, 25, 40, 0),
  (25, .iload 4, 27, 0, 0),
  (27, .aload_n 0, 28, 0, 0),
  (28, .getfield 51, 31, 2, 10),
  (31, .arraylength, 32, 0, 0),
  (32, .if_icmp .ge 8, 35, 40, 0),
  (35, .iload 4, 37, 0, 0),
  (37, .goto 4, 40, 41, 0),
  (40, .iconst 0, 41, 0, 0),
  (41, .ireturn, 42, 0, 0)]
theorem pg_d55 : ∀ q ∈ pg_L55, decode prog_3_method_10_code q.1 = .ok (q.2.1, q.2.2.1 - q.1) := by decide +kernel
def pg_L56 : List (Nat × Instr × Nat × Nat × Nat) := [
  (0, .aload_n 0, 1, 0, 0),
  (1, .getfield 34, 4, 2, 5),
  (4, .lconst 0, 5, 0, 0),
  (5, .invokestatic 212, 8, 380, 2),
  (8, .aload_n 0, 9, 0, 0),
  (9, .getfield 41, 12, 2, 7),
  (12, .lconst 0, 13, 0, 0),
  (13, .invokestatic 212, 16, 380, 2),
  (16, .aload_n 0, 17, 0, 0),
  (17, .getfield 44, 20, 2, 8),
  (20, .lconst 0, 21, 0, 0),
  (21, .invokestatic 212, 24, 380, 2),
  (24, .iconst 0, 25, 0, 0),
  (25, .istore_n 1, 26, 0, 0),
  (26, .iload_n 1, 27, 0, 0),
  (27, .iconst 3, 28, 0, 0),
  (28, .if_icmp .gt 16, 31, 44, 0),
  (31, .aload_n 0, 32, 0, 0),
  (32, .getfield 30, 35, 2, 4),
  (35, .iload_n 1, 36, 0, 0),
  (36, .iconst 0, 37, 0, 0),
  (37, .bastore, 38, 0, 0),
  (38, .iinc 1 1, 41, 0, 0),
  (41, .goto (-15), 44, 26, 0),
  (44, .iconst 0, 45, 0, 0),
  (45, .istore_n 1, 46, 0, 0),
  (46, .iload_n 1, 47, 0, 0),
  (47, .aload_n 0, 48, 0, 0),
  (48, .getfield 54, 51, 2, 11),
  (51, .if_icmp .ge 61, 54, 112, 0),
  (54, .aload_n 0, 55, 0, 0),
  (55, .iload_n 1, 56, 0, 0),
  (56, .invokevirtual 82, 59, 57, 1),
  (59, .astore_n 2, 60, 0, 0),
  (60, .aload_n 2, 61, 0, 0),
  (61, .getfield 215, 64, 8, 5),
  (64, .ifCond .le 42, 67, 106, 0),
  (67, .aload_n 0, 68, 0, 0),
  (68, .getfield 30, 71, 2, 4),
  (71, .aload_n 0, 72, 0, 0),
  (72, .aload_n 2, 73, 0, 0),
  (73, .invokevirtual 218, 76, 58, 1),
  (76, .iconst 1, 77, 0, 0),
  (77, .bastore, 78, 0, 0),
  (78, .aload_n 0, 79, 0, 0),
  (79, .getfield 30, 82, 2, 4),
  (82, .iconst 3, 83, 0, 0),
  (83, .aload_n 0, 84, 0, 0),
  (84, .getfield 30, 87, 2, 4),
  (87, .iconst 3, 88, 0, 0),
  (88, .baload, 89, 0, 0),
  (89, .ifCond .ne 11, 92, 100, 0),
  (92, .aload_n 2, 93, 0, 0),
  (93, .getfield 58, 96, 8, 4),
  (96, .iconst 4, 97, 0, 0),
  (97, .if_icmp .lt 7, 100, 104, 0),
  (100, .iconst 1, 101, 0, 0),
  (101, .goto 4, 104, 105, 0),
  (104, .iconst 0, 105, 0, 0),
  (105, .bastore, 106, 0, 0),
  (106, .iinc 1 1, 109, 0, 0),
  (109, .goto (-63), 112, 46, 0),
  (112, .iconst 0, 113, 0, 0),
  (113, .istore_n 1, 114, 0, 0),
  (114, .iload_n 1, 115, 0, 0),
  (115, .aload_n 0, 116, 0, 0),
  (116, .getfield 9, 119, 2, 0),
  (119, .getfield 222, 122, 3, 15),
  (122, .if_icmp .ge 54, 125, 176, 0),
  (125, .aload_n 0, 126, 0, 0),
  (126, .getfield 9, 129, 2, 0),
  (129, .iload_n 1, 130, 0, 0),
  (130, .invokevirtual 225, 133, 90, 1),
  (133, .astore_n 2, 134, 0, 0),
  (134, .aload_n 0, 135, 0, 0),
  (135, .getfield 30, 138, 2, 4),
  (138, .iconst 2, 139, 0, 0),
  (139, .aload_n 0, 140, 0, 0),
  (140, .getfield 30, 143, 2, 4),
  (143, .iconst 2, 144, 0, 0),
  (144, .baload, 145, 0, 0),
  (145, .ifCond .ne 19, 148, 164, 0),
  (148, .aload_n 2, 149, 0, 0),
  (149, .invokestatic 228, 152, 59, 1),
  (152, .ifCond .eq 16, 155, 168, 0),
  (155, .aload_n 2, 156, 0, 0),
  (156, .getfield 232, 159, 5, 8),
  (159, .lconst 0, 160, 0, 0),
  (160, .lcmp, 161, 0, 0),
  (161, .ifCond .le 7, 164, 168, 0),
  (164, .iconst 1, 165, 0, 0),
  (165, .goto 4, 168, 169, 0),
  (168, .iconst 0, 169, 0, 0),
  (169, .bastore, 170, 0, 0),
  (170, .iinc 1 1, 173, 0, 0),
  (173, .goto (-59), 176, 114, 0),
  (176, .aload_n 0, 177, 0, 0),
  (177, .getfield 30, 180, 2, 4),
  (180, .iconst 2, 181, 0, 0),
  (181, .aload_n 0, 182, 0, 0),
  (182, .getfield 30, 185, 2, 4),
  (185, .iconst 2, 186, 0, 0),
  (186, .baload, 187, 0, 0),
  (187, .ifCond .ne 10, 190, 197, 0),
  (190, .aload_n 0, 191, 0, 0),
  (191, .getfield 139, 194, 2, 12),
  (194, .ifCond .le 7, 197, 201, 0),
  (197, .iconst 1, 198, 0, 0),
  (198, .goto 4, 201, 202, 0),
  (201, .iconst 0, 202, 0, 0),
  (202, .bastore, 203, 0, 0),
  (203, .return_, 204, 0, 0)]
theorem pg_d56 : ∀ q ∈ pg_L56, decode prog_3_method_13_code q.1 = .ok (q.2.1, q.2.2.1 - q.1) := by decide +kernel
def pg_L57 : List (Nat × Instr × Nat × Nat × Nat) := [
  (0, .iload_n 1, 1, 0, 0),
  (1, .ifCond .lt 29, 4, 30, 0),
  (4, .iload_n 1, 5, 0, 0),
  (5, .aload_n 0, 6, 0, 0),
  (6, .getfield 54, 9, 2, 11),
  (9, .if_icmp .ge 21, 12, 30, 0),
  (12, .iload_n 1, 13, 0, 0),
  (13, .aload_n 0, 14, 0, 0),
  (14, .getfield 21, 17, 2, 2),
  (17, .arraylength, 18, 0, 0),
  (18, .if_icmp .ge 12, 21, 30, 0),
  (21, .aload_n 0, 22, 0, 0),
  (22, .getfield 21, 25, 2, 2),
  (25, .iload_n 1, 26, 0, 0),
  (26, .aaload, 27, 0, 0),
  (27, .goto 4, 30, 31, 0),
  (30, .aconst_null, 31, 0, 0),
  (31, .astore_n 2, 32, 0, 0),
  (32, .aload_n 2, 33, 0, 0),
  (33, .ifnonnull 10, 36, 43, 0),
  (36, .aload_n 0, 37, 0, 0),
  (37, .getfield 26, 40, 2, 3),
  (40, .goto 4, 43, 44, 0),
  (43, .aload_n 2, 44, 0, 0),
  (44, .areturn, 45, 0, 0)]
theorem pg_d57 : ∀ q ∈ pg_L57, decode prog_3_method_2_code q.1 = .ok (q.2.1, q.2.2.1 - q.1) := by decide +kernel
def pg_L58 : List (Nat × Instr × Nat × Nat × Nat) := [
  (0, .aload_n 1, 1, 0, 0),
  (1, .getfield 58, 4, 8, 4),
  (4, .ifCond .lt 25, 7, 29, 0),
  (7, .aload_n 1, 8, 0, 0),
  (8, .getfield 58, 11, 8, 4),
  (11, .getstatic 61, 14, 5, 0),
  (14, .arraylength, 15, 0, 0),
  (15, .if_icmp .ge 14, 18, 29, 0),
  (18, .getstatic 61, 21, 5, 0),
  (21, .aload_n 1, 22, 0, 0),
  (22, .getfield 58, 25, 8, 4),
  (25, .iaload, 26, 0, 0),
  (26, .goto 4, 29, 30, 0),
  (29, .iconst 0, 30, 0, 0),
  (30, .ireturn, 31, 0, 0)]
theorem pg_d58 : ∀ q ∈ pg_L58, decode prog_3_method_3_code q.1 = .ok (q.2.1, q.2.2.1 - q.1) := by decide +kernel
def pg_L59 : List (Nat × Instr × Nat × Nat × Nat) := [
  (0, .aload_n 0, 1, 0, 0),
  (1, .getfield 234, 4, 5, 5),
  (4, .iconst 3, 5, 0, 0),
  (5, .if_icmp .ne 14, 8, 19, 0),
  (8, .aload_n 0, 9, 0, 0),
  (9, .getfield 237, 12, 5, 13),
  (12, .ifCond .eq 7, 15, 19, 0),
  (15, .iconst 1, 16, 0, 0),
  (16, .goto 4, 19, 20, 0),
  (19, .iconst 0, 20, 0, 0),
  (20, .ireturn, 21, 0, 0)]
theorem pg_d59 : ∀ q ∈ pg_L59, decode prog_3_method_14_code q.1 = .ok (q.2.1, q.2.2.1 - q.1) := by decide +kernel
def pg_L60 : List (Nat × Instr × Nat × Nat × Nat) := [
  (0, .bipush 64, 2, 0, 0),
  (2, .bipush 56, 4, 0, 0),
  (4, .aload_n 0, 5, 0, 0),
  (5, .invokevirtual 238, 8, 61, 0),
  (8, .aload_n 0, 9, 0, 0),
  (9, .getfield 30, 12, 2, 4),
  (12, .iconst 3, 13, 0, 0),
  (13, .baload, 14, 0, 0),
  (14, .ifCond .eq 7, 17, 21, 0),
  (17, .iconst 1, 18, 0, 0),
  (18, .goto 4, 21, 22, 0),
  (21, .iconst 0, 22, 0, 0),
  (22, .iadd, 23, 0, 0),
  (23, .imul, 24, 0, 0),
  (24, .iadd, 25, 0, 0),
  (25, .i2l, 26, 0, 0),
  (26, .lstore_n 1, 27, 0, 0),
  (27, .ldc2_w 242, 30, 26, 0),
  (30, .lstore_n 3, 31, 0, 0),
  (31, .iconst 0, 32, 0, 0),
  (32, .istore 5, 34, 0, 0),
  (34, .iload 5, 36, 0, 0),
  (36, .iconst 3, 37, 0, 0),
  (37, .if_icmp .ge 200, 40, 237, 0),
  (40, .aload_n 0, 41, 0, 0),
  (41, .getfield 34, 44, 2, 5),
  (44, .iload 5, 46, 0, 0),
  (46, .lload_n 1, 47, 0, 0),
  (47, .ldc2_w 244, 50, 15, 0),
  (50, .invokestatic 246, 53, 3, 2),
  (53, .lastore, 54, 0, 0),
  (54, .aload_n 0, 55, 0, 0),
  (55, .getfield 38, 58, 2, 6),
  (58, .iload 5, 60, 0, 0),
  (60, .lload_n 3, 61, 0, 0),
  (61, .ldc2_w 250, 64, 14, 0),
  (64, .invokestatic 246, 67, 3, 2),
  (67, .aload_n 0, 68, 0, 0),
  (68, .getfield 30, 71, 2, 4),
  (71, .iload 5, 73, 0, 0),
  (73, .baload, 74, 0, 0),
  (74, .ifCond .eq 17, 77, 91, 0),
  (77, .aload_n 0, 78, 0, 0),
  (78, .getfield 34, 81, 2, 5),
  (81, .iload 5, 83, 0, 0),
  (83, .laload, 84, 0, 0),
  (84, .ldc2_w 252, 87, 27, 0),
  (87, .land, 88, 0, 0),
  (88, .goto 4, 91, 92, 0),
  (91, .lconst 0, 92, 0, 0),
  (92, .ladd, 93, 0, 0),
  (93, .lastore, 94, 0, 0),
  (94, .iload 5, 96, 0, 0),
  (96, .iconst 2, 97, 0, 0),
  (97, .if_icmp .ne 10, 100, 107, 0),
  (100, .aload_n 0, 101, 0, 0),
  (101, .invokevirtual 254, 104, 62, 0),
  (104, .goto 85, 107, 189, 0),
  (107, .aload_n 0, 108, 0, 0),
  (108, .iload 5, 110, 0, 0),
  (110, .aload_n 0, 111, 0, 0),
  (111, .getfield 38, 114, 2, 6),
  (114, .iload 5, 116, 0, 0),
  (116, .laload, 117, 0, 0),
  (117, .invokevirtual 257, 120, 63, 2),
  (120, .lstore 6, 122, 0, 0),
  (122, .iload 5, 124, 0, 0),
  (124, .ifCond .ne 12, 127, 136, 0),
  (127, .aload_n 0, 128, 0, 0),
  (128, .lload 6, 130, 0, 0),
  (130, .putfield 261, 133, 2, 14),
  (133, .goto 25, 136, 158, 0),
  (136, .aload_n 0, 137, 0, 0),
  (137, .getfield 15, 140, 2, 1),
  (140, .lload 6, 142, 0, 0),
  (142, .putfield 264, 145, 9, 5),
  (145, .lload 6, 147, 0, 0),
  (147, .aload_n 0, 148, 0, 0),
  (148, .getfield 15, 151, 2, 1),
  (151, .getfield 265, 154, 9, 4),
  (154, .i2l, 155, 0, 0),
  (155, .ladd, 156, 0, 0),
  (156, .lstore 6, 158, 0, 0),
  (158, .aload_n 0, 159, 0, 0),
  (159, .getfield 41, 162, 2, 7),
  (162, .iload 5, 164, 0, 0),
  (164, .lload 6, 166, 0, 0),
  (166, .aload_n 0, 167, 0, 0),
  (167, .getfield 38, 170, 2, 6),
  (170, .iload 5, 172, 0, 0),
  (172, .laload, 173, 0, 0),
  (173, .lsub, 174, 0, 0),
  (174, .lastore, 175, 0, 0),
  (175, .aload_n 0, 176, 0, 0),
  (176, .getfield 44, 179, 2, 8),
  (179, .iload 5, 181, 0, 0),
  (181, .aload_n 0, 182, 0, 0),
  (182, .getfield 41, 185, 2, 7),
  (185, .iload 5, 187, 0, 0),
  (187, .laload, 188, 0, 0),
  (188, .lastore, 189, 0, 0),
  (189, .aload_n 0, 190, 0, 0),
  (190, .getfield 30, 193, 2, 4),
  (193, .iload 5, 195, 0, 0),
  (195, .baload, 196, 0, 0),
  (196, .ifCond .eq 35, 199, 231, 0),
  (199, .aload_n 0, 200, 0, 0),
  (200, .getfield 34, 203, 2, 5),
  (203, .iload 5, 205, 0, 0),
  (205, .laload, 206, 0, 0),
  (206, .aload_n 0, 207, 0, 0),
  (207, .getfield 41, 210, 2, 7),
  (210, .iload 5, 212, 0, 0),
  (212, .laload, 213, 0, 0),
  (213, .ladd, 214, 0, 0),
  (214, .lstore_n 1, 215, 0, 0),
  (215, .aload_n 0, 216, 0, 0),
  (216, .getfield 38, 219, 2, 6),
  (219, .iload 5, 221, 0, 0),
  (221, .laload, 222, 0, 0),
  (222, .aload_n 0, 223, 0, 0),
  (223, .getfield 44, 226, 2, 8),
  (226, .iload 5, 228, 0, 0),
  (228, .laload, 229, 0, 0),
  (229, .ladd, 230, 0, 0),
  (230, .lstore_n 3, 231, 0, 0),
  (231, .iinc 5 1, 234, 0, 0),
  (234, .goto (-200), 237, 34, 0),
  (237, .aload_n 0, 238, 0, 0),
  (238, .lload_n 1, 239, 0, 0),
  (239, .putfield 66, 242, 2, 18),
  (242, .return_, 243, 0, 0)]
theorem pg_d60 : ∀ q ∈ pg_L60, decode prog_3_method_15_code q.1 = .ok (q.2.1, q.2.2.1 - q.1) := by decide +kernel
def pg_L61 : List (Nat × Instr × Nat × Nat × Nat) := [
  (0, .iconst 0, 1, 0, 0),
  (1, .istore_n 1, 2, 0, 0),
  (2, .iconst 0, 3, 0, 0),
  (3, .istore_n 2, 4, 0, 0),
  (4, .iload_n 2, 5, 0, 0),
  (5, .iconst 3, 6, 0, 0),
  (6, .if_icmp .ge 26, 9, 32, 0),
  (9, .iload_n 1, 10, 0, 0),
  (10, .aload_n 0, 11, 0, 0),
  (11, .getfield 30, 14, 2, 4),
  (14, .iload_n 2, 15, 0, 0),
  (15, .baload, 16, 0, 0),
  (16, .ifCond .eq 7, 19, 23, 0),
  (19, .iconst 1, 20, 0, 0),
  (20, .goto 4, 23, 24, 0),
  (23, .iconst 0, 24, 0, 0),
  (24, .iadd, 25, 0, 0),
  (25, .istore_n 1, 26, 0, 0),
  (26, .iinc 2 1, 29, 0, 0),
  (29, .goto (-25), 32, 4, 0),
  (32, .iload_n 1, 33, 0, 0),
  (33, .ireturn, 34, 0, 0)]
theorem pg_d61 : ∀ q ∈ pg_L61, decode prog_3_method_4_code q.1 = .ok (q.2.1, q.2.2.1 - q.1) := by decide +kernel
def pg_L62 : List (Nat × Instr × Nat × Nat × Nat) := [
  (0, .aload_n 0, 1, 0, 0),
  (1, .iconst 4, 2, 0, 0),
  (2, .aload_n 0, 3, 0, 0),
  (3, .getfield 38, 6, 2, 6),
  (6, .iconst 2, 7, 0, 0),
  (7, .laload, 8, 0, 0),
  (8, .invokevirtual 257, 11, 63, 2),
  (11, .lstore_n 1, 12, 0, 0),
  (12, .aload_n 0, 13, 0, 0),
  (13, .lload_n 1, 14, 0, 0),
  (14, .aload_n 0, 15, 0, 0),
  (15, .iconst 5, 16, 0, 0),
  (16, .lload_n 1, 17, 0, 0),
  (17, .invokevirtual 257, 20, 63, 2),
  (20, .invokevirtual 266, 23, 64, 2),
  (23, .aload_n 0, 24, 0, 0),
  (24, .iconst 2, 25, 0, 0),
  (25, .lload_n 1, 26, 0, 0),
  (26, .invokevirtual 257, 29, 63, 2),
  (29, .lstore_n 1, 30, 0, 0),
  (30, .aload_n 0, 31, 0, 0),
  (31, .getfield 139, 34, 2, 12),
  (34, .ifCond .le 29, 37, 63, 0),
  (37, .aload_n 0, 38, 0, 0),
  (38, .lload_n 1, 39, 0, 0),
  (39, .ldc2_w 270, 42, 25, 0),
  (42, .invokestatic 246, 45, 3, 2),
  (45, .putfield 142, 48, 2, 13),
  (48, .aload_n 0, 49, 0, 0),
  (49, .getfield 142, 52, 2, 13),
  (52, .ldc2_w 270, 55, 25, 0),
  (55, .aload_n 0, 56, 0, 0),
  (56, .getfield 139, 59, 2, 12),
  (59, .i2l, 60, 0, 0),
  (60, .lmul, 61, 0, 0),
  (61, .ladd, 62, 0, 0),
  (62, .lstore_n 1, 63, 0, 0),
  (63, .aload_n 0, 64, 0, 0),
  (64, .getfield 41, 67, 2, 7),
  (67, .iconst 2, 68, 0, 0),
  (68, .lload_n 1, 69, 0, 0),
  (69, .aload_n 0, 70, 0, 0),
  (70, .getfield 38, 73, 2, 6),
  (73, .iconst 2, 74, 0, 0),
  (74, .laload, 75, 0, 0),
  (75, .lsub, 76, 0, 0),
  (76, .lastore, 77, 0, 0),
  (77, .aload_n 0, 78, 0, 0),
  (78, .iconst 3, 79, 0, 0),
  (79, .lload_n 1, 80, 0, 0),
  (80, .invokevirtual 257, 83, 63, 2),
  (83, .lstore_n 1, 84, 0, 0),
  (84, .aload_n 0, 85, 0, 0),
  (85, .iconst 3, 86, 0, 0),
  (86, .invokevirtual 272, 89, 65, 1),
  (89, .astore_n 3, 90, 0, 0),
  (90, .aload_n 0, 91, 0, 0),
  (91, .aload_n 3, 92, 0, 0),
  (92, .ifnonnull 9, 95, 101, 0),
  (95, .ldc2_w 275, 98, 9, 0),
  (98, .goto 7, 101, 105, 0),
  (101, .aload_n 3, 102, 0, 0),
  (102, .getfield 96, 105, 8, 11),
  (105, .putfield 277, 108, 2, 15),
  (108, .iconst 0, 109, 0, 0),
  (109, .istore 4, 111, 0, 0),
  (111, .iload 4, 113, 0, 0),
  (113, .aload_n 0, 114, 0, 0),
  (114, .getfield 9, 117, 2, 0),
  (117, .getfield 222, 120, 3, 15),
  (120, .if_icmp .ge 92, 123, 212, 0),
  (123, .aload_n 0, 124, 0, 0),
  (124, .getfield 9, 127, 2, 0),
  (127, .iload 4, 129, 0, 0),
  (129, .invokevirtual 225, 132, 90, 1),
  (132, .astore 5, 134, 0, 0),
  (134, .aload 5, 136, 0, 0),
  (136, .invokestatic 228, 139, 59, 1),
  (139, .ifCond .eq 67, 142, 206, 0),
  (142, .aload 5, 144, 0, 0),
  (144, .aload_n 0, 145, 0, 0),
  (145, .getfield 30, 148, 2, 4),
  (148, .iconst 2, 149, 0, 0),
  (149, .baload, 150, 0, 0),
  (150, .ifCond .eq 15, 153, 165, 0),
  (153, .lload_n 1, 154, 0, 0),
  (154, .aload 5, 156, 0, 0),
  (156, .getfield 280, 159, 5, 7),
  (159, .invokestatic 246, 162, 3, 2),
  (162, .goto 4, 165, 166, 0),
  (165, .lload_n 1, 166, 0, 0),
  (166, .putfield 116, 169, 5, 14),
  (169, .aload 5, 171, 0, 0),
  (171, .getfield 116, 174, 5, 14),
  (174, .aload 5, 176, 0, 0),
  (176, .getfield 232, 179, 5, 8),
  (179, .ladd, 180, 0, 0),
  (180, .lstore_n 1, 181, 0, 0),
  (181, .aload_n 0, 182, 0, 0),
  (182, .aload_n 0, 183, 0, 0),
  (183, .getfield 277, 186, 2, 15),
  (186, .lconst 0, 187, 0, 0),
  (187, .lcmp, 188, 0, 0),
  (188, .ifCond .ge 11, 191, 199, 0),
  (191, .aload 5, 193, 0, 0),
  (193, .getfield 116, 196, 5, 14),
  (196, .goto 7, 199, 203, 0),
  (199, .aload_n 0, 200, 0, 0),
  (200, .getfield 277, 203, 2, 15),
  (203, .putfield 277, 206, 2, 15),
  (206, .iinc 4 1, 209, 0, 0),
  (209, .goto (-98), 212, 111, 0),
  (212, .aload_n 0, 213, 0, 0),
  (213, .aload_n 0, 214, 0, 0),
  (214, .getfield 277, 217, 2, 15),
  (217, .lconst 0, 218, 0, 0),
  (218, .lcmp, 219, 0, 0),
  (219, .ifCond .ge 7, 222, 226, 0),
  (222, .lload_n 1, 223, 0, 0),
  (223, .goto 7, 226, 230, 0),
  (226, .aload_n 0, 227, 0, 0),
  (227, .getfield 277, 230, 2, 15),
  (230, .putfield 277, 233, 2, 15),
  (233, .aload_n 0, 234, 0, 0),
  (234, .getfield 44, 237, 2, 8),
  (237, .iconst 2, 238, 0, 0),
  (238, .lload_n 1, 239, 0, 0),
  (239, .aload_n 0, 240, 0, 0),
  (240, .getfield 38, 243, 2, 6),
  (243, .iconst 2, 244, 0, 0),
  (244, .laload, 245, 0, 0),
  (245, .lsub, 246, 0, 0),
  (246, .lastore, 247, 0, 0),
  (247, .return_, 248, 0, 0)]
theorem pg_d62 : ∀ q ∈ pg_L62, decode prog_3_method_16_code q.1 = .ok (q.2.1, q.2.2.1 - q.1) := by decide +kernel
def pg_L63 : List (Nat × Instr × Nat × Nat × Nat) := [
  (0, .lload_n 2, 1, 0, 0),
  (1, .lstore 4, 3, 0, 0),
  (3, .iconst 0, 4, 0, 0),
  (4, .istore 6, 6, 0, 0),
  (6, .iload 6, 8, 0, 0),
  (8, .aload_n 0, 9, 0, 0),
  (9, .getfield 54, 12, 2, 11),
  (12, .if_icmp .ge 83, 15, 95, 0),
  (15, .aload_n 0, 16, 0, 0),
  (16, .iload 6, 18, 0, 0),
  (18, .invokevirtual 82, 21, 57, 1),
  (21, .astore 7, 23, 0, 0),
  (23, .aload 7, 25, 0, 0),
  (25, .getfield 58, 28, 8, 4),
  (28, .iload_n 1, 29, 0, 0),
  (29, .if_icmp .ne 60, 32, 89, 0),
  (32, .aload 7, 34, 0, 0),
  (34, .getfield 86, 37, 8, 10),
  (37, .ifCond .ne 52, 40, 89, 0),
  (40, .aload 7, 42, 0, 0),
  (42, .aload_n 0, 43, 0, 0),
  (43, .getfield 30, 46, 2, 4),
  (46, .aload_n 0, 47, 0, 0),
  (47, .aload 7, 49, 0, 0),
  (49, .invokevirtual 218, 52, 58, 1),
  (52, .baload, 53, 0, 0),
  (53, .ifCond .eq 17, 56, 70, 0),
  (56, .lload 4, 58, 0, 0),
  (58, .aload 7, 60, 0, 0),
  (60, .getfield 286, 63, 8, 6),
  (63, .i2l, 64, 0, 0),
  (64, .invokestatic 246, 67, 3, 2),
  (67, .goto 5, 70, 72, 0),
  (70, .lload 4, 72, 0, 0),
  (72, .putfield 96, 75, 8, 11),
  (75, .aload 7, 77, 0, 0),
  (77, .getfield 96, 80, 8, 11),
  (80, .aload 7, 82, 0, 0),
  (82, .getfield 215, 85, 8, 5),
  (85, .i2l, 86, 0, 0),
  (86, .ladd, 87, 0, 0),
  (87, .lstore 4, 89, 0, 0),
  (89, .iinc 6 1, 92, 0, 0),
  (92, .goto (-86), 95, 6, 0),
  (95, .lload 4, 97, 0, 0),
  (97, .lreturn, 98, 0, 0)]
theorem pg_d63 : ∀ q ∈ pg_L63, decode prog_3_method_19_code q.1 = .ok (q.2.1, q.2.2.1 - q.1) := by decide +kernel
def pg_C3 : List (List (Nat × Instr × Nat × Nat × Nat)) := [pg_L48, pg_L49, pg_L50, pg_L51, pg_L52, pg_L53, pg_L54, pg_L55, pg_L56, pg_L57, pg_L58, pg_L59, pg_L60, pg_L61, pg_L62, pg_L63]
def pg_L64 : List (Nat × Instr × Nat × Nat × Nat) := [
  (0, .aload_n 0, 1, 0, 0),
  (1, .iconst 4, 2, 0, 0),
  (2, .invokevirtual 272, 5, 65, 1),
  (5, .astore 5, 7, 0, 0),
  (7, .aload 5, 9, 0, 0),
  (9, .ifnull 7, 12, 16, 0),
  (12, .iconst 1, 13, 0, 0),
  (13, .goto 4, 16, 17, 0),
  (16, .iconst 0, 17, 0, 0),
  (17, .istore 6, 19, 0, 0),
  (19, .iload 6, 21, 0, 0),
  (21, .ifCond .eq 8, 24, 29, 0),
  (24, .aload 5, 26, 0, 0),
  (26, .goto 8, 29, 34, 0),
  (29, .aload_n 0, 30, 0, 0),
  (30, .iconst 5, 31, 0, 0),
  (31, .invokevirtual 272, 34, 65, 1),
  (34, .astore 5, 36, 0, 0),
  (36, .aload_n 0, 37, 0, 0),
  (37, .lconst 1, 38, 0, 0),
  (38, .putfield 283, 41, 2, 16),
  (41, .aload_n 0, 42, 0, 0),
  (42, .aload_n 0, 43, 0, 0),
  (43, .getfield 38, 46, 2, 6),
  (46, .iconst 2, 47, 0, 0),
  (47, .laload, 48, 0, 0),
  (48, .putfield 209, 51, 2, 17),
  (51, .aload 5, 53, 0, 0),
  (53, .ifnonnull 4, 56, 57, 0),
  (56, .return_, 57, 0, 0),
  (57, .iconst 0, 58, 0, 0),
  (58, .istore 7, 60, 0, 0),
  (60, .iload 7, 62, 0, 0),
  (62, .aload_n 0, 63, 0, 0),
  (63, .getfield 54, 66, 2, 11),
  (66, .if_icmp .ge 50, 69, 116, 0),
  (69, .aload_n 0, 70, 0, 0),
  (70, .iload 7, 72, 0, 0),
  (72, .invokevirtual 82, 75, 57, 1),
  (75, .astore 8, 77, 0, 0),
  (77, .aload_n 0, 78, 0, 0),
  (78, .aload 8, 80, 0, 0),
  (80, .getfield 58, 83, 8, 4),
  (83, .iconst 4, 84, 0, 0),
  (84, .if_icmp .lt 19, 87, 103, 0),
  (87, .aload_n 0, 88, 0, 0),
  (88, .getfield 283, 91, 2, 16),
  (91, .aload 8, 93, 0, 0),
  (93, .getfield 286, 96, 8, 6),
  (96, .i2l, 97, 0, 0),
  (97, .invokestatic 289, 100, 9003, 0),
  (100, .goto 7, 103, 107, 0),
  (103, .aload_n 0, 104, 0, 0),
  (104, .getfield 283, 107, 2, 16),
  (107, .putfield 283, 110, 2, 16),
  (110, .iinc 7 1, 113, 0, 0),
  (113, .goto (-53), 116, 60, 0),
  (116, .aload_n 0, 117, 0, 0),
  (117, .getfield 38, 120, 2, 6),
  (120, .iconst 3, 121, 0, 0),
  (121, .aload 5, 123, 0, 0),
  (123, .getfield 96, 126, 8, 11),
  (126, .lastore, 127, 0, 0),
  (127, .aload_n 0, 128, 0, 0),
  (128, .getfield 34, 131, 2, 5),
  (131, .iconst 3, 132, 0, 0),
  (132, .aload_n 0, 133, 0, 0),
  (133, .getfield 34, 136, 2, 5),
  (136, .iconst 2, 137, 0, 0),
  (137, .laload, 138, 0, 0),
  (138, .aload 5, 140, 0, 0),
  (140, .getfield 96, 143, 8, 11),
  (143, .ladd, 144, 0, 0),
  (144, .aload_n 0, 145, 0, 0),
  (145, .getfield 38, 148, 2, 6),
  (148, .iconst 2, 149, 0, 0),
  (149, .laload, 150, 0, 0),
  (150, .lsub, 151, 0, 0),
  (151, .lastore, 152, 0, 0),
  (152, .aload_n 0, 153, 0, 0),
  (153, .getfield 41, 156, 2, 7),
  (156, .iconst 3, 157, 0, 0),
  (157, .iload 6, 159, 0, 0),
  (159, .ifCond .eq 13, 162, 172, 0),
  (162, .lload_n 1, 163, 0, 0),
  (163, .aload 5, 165, 0, 0),
  (165, .getfield 96, 168, 8, 11),
  (168, .lsub, 169, 0, 0),
  (169, .goto 4, 172, 173, 0),
  (172, .lconst 0, 173, 0, 0),
  (173, .lastore, 174, 0, 0),
  (174, .aload_n 0, 175, 0, 0),
  (175, .getfield 44, 178, 2, 8),
  (178, .iconst 3, 179, 0, 0),
  (179, .lload_n 3, 180, 0, 0),
  (180, .aload 5, 182, 0, 0),
  (182, .getfield 96, 185, 8, 11),
  (185, .lsub, 186, 0, 0),
  (186, .lastore, 187, 0, 0),
  (187, .aload_n 0, 188, 0, 0),
  (188, .lload_n 3, 189, 0, 0),
  (189, .aload_n 0, 190, 0, 0),
  (190, .getfield 283, 193, 2, 16),
  (193, .invokestatic 246, 196, 3, 2),
  (196, .putfield 209, 199, 2, 17),
  (199, .return_, 200, 0, 0)]
theorem pg_d64 : ∀ q ∈ pg_L64, decode prog_3_method_17_code q.1 = .ok (q.2.1, q.2.2.1 - q.1) := by decide +kernel
def pg_L65 : List (Nat × Instr × Nat × Nat × Nat) := [
  (0, .iconst 0, 1, 0, 0),
  (1, .istore_n 2, 2, 0, 0),
  (2, .iload_n 2, 3, 0, 0),
  (3, .aload_n 0, 4, 0, 0),
  (4, .getfield 54, 7, 2, 11),
  (7, .if_icmp .ge 27, 10, 34, 0),
  (10, .aload_n 0, 11, 0, 0),
  (11, .iload_n 2, 12, 0, 0),
  (12, .invokevirtual 82, 15, 57, 1),
  (15, .getfield 58, 18, 8, 4),
  (18, .iload_n 1, 19, 0, 0),
  (19, .if_icmp .ne 9, 22, 28, 0),
  (22, .aload_n 0, 23, 0, 0),
  (23, .iload_n 2, 24, 0, 0),
  (24, .invokevirtual 82, 27, 57, 1),
  (27, .areturn, 28, 0, 0),
  (28, .iinc 2 1, 31, 0, 0),
  (31, .goto (-29), 34, 2, 0),
  (34, .aconst_null, 35, 0, 0),
  (35, .areturn, 36, 0, 0)]
theorem pg_d65 : ∀ q ∈ pg_L65, decode prog_3_method_18_code q.1 = .ok (q.2.1, q.2.2.1 - q.1) := by decide +kernel
def pg_L66 : List (Nat × Instr × Nat × Nat × Nat) := [
  (0, .aload_n 1, 1, 0, 0),
  (1, .getfield 234, 4, 5, 5),
  (4, .tableswitch 90 1 4 #[32, 59, 64, 80], 36, 0, 0),
  (36, .aload_n 1, 37, 0, 0),
  (37, .getfield 292, 40, 5, 6),
  (40, .ifnonnull 7, 43, 47, 0),
  (43, .lconst 0, 44, 0, 0),
  (44, .goto 18, 47, 62, 0),
  (47, .aload_n 0, 48, 0, 0),
  (48, .getfield 15, 51, 2, 1),
  (51, .aload_n 1, 52, 0, 0),
  (52, .getfield 292, 55, 5, 6),
  (55, .aload_n 1, 56, 0, 0),
  (56, .getfield 280, 59, 5, 7),
  (59, .invokevirtual 90, 62, 165, 2),
  (62, .lreturn, 63, 0, 0),
  (63, .aload_n 1, 64, 0, 0),
  (64, .getfield 280, 67, 5, 7),
  (67, .lreturn, 68, 0, 0),
  (68, .aload_n 1, 69, 0, 0),
  (69, .getfield 237, 72, 5, 13),
  (72, .ifCond .eq 10, 75, 82, 0),
  (75, .aload_n 1, 76, 0, 0),
  (76, .getfield 116, 79, 5, 14),
  (79, .goto 4, 82, 83, 0),
  (82, .lconst 0, 83, 0, 0),
  (83, .lreturn, 84, 0, 0),
  (84, .aload_n 0, 85, 0, 0),
  (85, .aload_n 1, 86, 0, 0),
  (86, .getfield 280, 89, 5, 7),
  (89, .l2i, 90, 0, 0),
  (90, .invokevirtual 294, 93, 67, 1),
  (93, .lreturn, 94, 0, 0),
  (94, .lconst 0, 95, 0, 0),
  (95, .lreturn, 96, 0, 0)]
theorem pg_d66 : ∀ q ∈ pg_L66, decode prog_3_method_20_code q.1 = .ok (q.2.1, q.2.2.1 - q.1) := by decide +kernel
def pg_L67 : List (Nat × Instr × Nat × Nat × Nat) := [
  (0, .iload_n 1, 1, 0, 0),
  (1, .tableswitch 51 0 2 #[27, 32, 46], 28, 0, 0),
  (28, .aload_n 0, 29, 0, 0),
  (29, .getfield 261, 32, 2, 14),
  (32, .lreturn, 33, 0, 0),
  (33, .aload_n 0, 34, 0, 0),
  (34, .getfield 38, 37, 2, 6),
  (37, .iconst 2, 38, 0, 0),
  (38, .laload, 39, 0, 0),
  (39, .aload_n 0, 40, 0, 0),
  (40, .getfield 41, 43, 2, 7),
  (43, .iconst 2, 44, 0, 0),
  (44, .laload, 45, 0, 0),
  (45, .ladd, 46, 0, 0),
  (46, .lreturn, 47, 0, 0),
  (47, .aload_n 0, 48, 0, 0),
  (48, .getfield 277, 51, 2, 15),
  (51, .lreturn, 52, 0, 0),
  (52, .aload_n 0, 53, 0, 0),
  (53, .getfield 38, 56, 2, 6),
  (56, .iconst 2, 57, 0, 0),
  (57, .laload, 58, 0, 0),
  (58, .aload_n 0, 59, 0, 0),
  (59, .getfield 44, 62, 2, 8),
  (62, .iconst 2, 63, 0, 0),
  (63, .laload, 64, 0, 0),
  (64, .ladd, 65, 0, 0),
  (65, .lreturn, 66, 0, 0)]
theorem pg_d67 : ∀ q ∈ pg_L67, decode prog_3_method_21_code q.1 = .ok (q.2.1, q.2.2.1 - q.1) := by decide +kernel
def pg_L68 : List (Nat × Instr × Nat × Nat × Nat) := [
  (0, .iconst 0, 1, 0, 0),
  (1, .istore_n 1, 2, 0, 0),
  (2, .iload_n 1, 3, 0, 0),
  (3, .iconst 3, 4, 0, 0),
  (4, .if_icmp .ge 24, 7, 28, 0),
  (7, .aload_n 0, 8, 0, 0),
  (8, .getfield 44, 11, 2, 8),
  (11, .iload_n 1, 12, 0, 0),
  (12, .laload, 13, 0, 0),
  (13, .ldc2_w 64, 16, 28, 0),
  (16, .lcmp, 17, 0, 0),
  (17, .ifCond .le 5, 20, 22, 0),
  (20, .iconst 1, 21, 0, 0),
  (21, .ireturn, 22, 0, 0),
  (22, .iinc 1 1, 25, 0, 0),
  (25, .goto (-23), 28, 2, 0),
  (28, .aload_n 0, 29, 0, 0),
  (29, .getfield 66, 32, 2, 18),
  (32, .ldc2_w 64, 35, 28, 0),
  (35, .lcmp, 36, 0, 0),
  (36, .ifCond .le 7, 39, 43, 0),
  (39, .iconst 1, 40, 0, 0),
  (40, .goto 4, 43, 44, 0),
  (43, .iconst 0, 44, 0, 0),
  (44, .ireturn, 45, 0, 0)]
theorem pg_d68 : ∀ q ∈ pg_L68, decode prog_3_method_5_code q.1 = .ok (q.2.1, q.2.2.1 - q.1) := by decide +kernel
def pg_L69 : List (Nat × Instr × Nat × Nat × Nat) := [
  (0, .iload_n 1, 1, 0, 0),
  (1, .ifCond .lt 20, 4, 21, 0),
  (4, .iload_n 1, 5, 0, 0),
  (5, .aload_n 0, 6, 0, 0),
  (6, .getfield 139, 9, 2, 12),
  (9, .if_icmp .ge 12, 12, 21, 0),
  (12, .aload_n 0, 13, 0, 0),
  (13, .getfield 47, 16, 2, 9),
  (16, .iload_n 1, 17, 0, 0),
  (17, .iaload, 18, 0, 0),
  (18, .goto 4, 21, 22, 0),
  (21, .iconst 0, 22, 0, 0),
  (22, .istore_n 2, 23, 0, 0),
  (23, .iload_n 2, 24, 0, 0),
  (24, .iconst 2, 25, 0, 0),
  (25, .idiv, 26, 0, 0),
  (26, .istore_n 3, 27, 0, 0),
  (27, .aload_n 0, 28, 0, 0),
  (28, .iload_n 3, 29, 0, 0),
  (29, .bipush 64, 31, 0, 0),
  (31, .idiv, 32, 0, 0),
  (32, .iload_n 3, 33, 0, 0),
  (33, .bipush 64, 35, 0, 0),
  (35, .irem, 36, 0, 0),
  (36, .invokevirtual 206, 39, 70, 2),
  (39, .lstore 4, 41, 0, 0),
  (41, .iload_n 2, 42, 0, 0),
  (42, .iconst 1, 43, 0, 0),
  (43, .iand, 44, 0, 0),
  (44, .ifCond .ne 8, 47, 52, 0),
  (47, .lload 4, 49, 0, 0),
  (49, .goto 10, 52, 59, 0),
  (52, .lload 4, 54, 0, 0),
  (54, .aload_n 0, 55, 0, 0),
  (55, .getfield 209, 58, 2, 17),
  (58, .lsub, 59, 0, 0),
  (59, .lreturn, 60, 0, 0)]
theorem pg_d69 : ∀ q ∈ pg_L69, decode prog_3_method_12_code q.1 = .ok (q.2.1, q.2.2.1 - q.1) := by decide +kernel
def pg_L70 : List (Nat × Instr × Nat × Nat × Nat) := [
  (0, .aload_n 0, 1, 0, 0),
  (1, .getfield 9, 4, 2, 0),
  (4, .iload_n 1, 5, 0, 0),
  (5, .iload_n 2, 6, 0, 0),
  (6, .invokevirtual 196, 9, 80, 2),
  (9, .astore_n 3, 10, 0, 0),
  (10, .aload_n 3, 11, 0, 0),
  (11, .ifnull 8, 14, 19, 0),
  (14, .aload_n 3, 15, 0, 0),
  (15, .getfield 116, 18, 5, 14),
  (18, .lreturn, 19, 0, 0),
  (19, .aload_n 0, 20, 0, 0),
  (20, .getfield 9, 23, 2, 0),
  (23, .iload_n 1, 24, 0, 0),
  (24, .invokevirtual 157, 27, 94, 1),
  (27, .astore 4, 29, 0, 0),
  (29, .iload_n 2, 30, 0, 0),
  (30, .ifCond .ne 7, 33, 37, 0),
  (33, .iconst 0, 34, 0, 0),
  (34, .goto 9, 37, 43, 0),
  (37, .aload 4, 39, 0, 0),
  (39, .iload_n 2, 40, 0, 0),
  (40, .invokevirtual 297, 43, 136, 1),
  (43, .istore 5, 45, 0, 0),
  (45, .iload 5, 47, 0, 0),
  (47, .ifCond .ne 5, 50, 52, 0),
  (50, .lconst 0, 51, 0, 0),
  (51, .lreturn, 52, 0, 0),
  (52, .iload 5, 54, 0, 0),
  (54, .bipush 24, 56, 0, 0),
  (56, .if_icmp .ge 16, 59, 72, 0),
  (59, .aload_n 0, 60, 0, 0),
  (60, .getfield 9, 63, 2, 0),
  (63, .iload_n 1, 64, 0, 0),
  (64, .iload 5, 66, 0, 0),
  (66, .invokevirtual 128, 69, 77, 2),
  (69, .goto 4, 72, 73, 0),
  (72, .aconst_null, 73, 0, 0),
  (73, .astore 6, 75, 0, 0),
  (75, .aload 6, 77, 0, 0),
  (77, .ifnull 11, 80, 88, 0),
  (80, .aload 6, 82, 0, 0),
  (82, .getfield 300, 85, 8, 8),
  (85, .ifCond .ne 7, 88, 92, 0),
  (88, .iconst 1, 89, 0, 0),
  (89, .goto 4, 92, 93, 0),
  (92, .iconst 0, 93, 0, 0),
  (93, .istore 7, 95, 0, 0),
  (95, .iload 7, 97, 0, 0),
  (97, .ifCond .eq 12, 100, 109, 0),
  (100, .aload 4, 102, 0, 0),
  (102, .iload_n 2, 103, 0, 0),
  (103, .invokevirtual 303, 106, 140, 1),
  (106, .goto 18, 109, 124, 0),
  (109, .aload_n 0, 110, 0, 0),
  (110, .getfield 15, 113, 2, 1),
  (113, .aload 6, 115, 0, 0),
  (115, .aload 4, 117, 0, 0),
  (117, .iload_n 2, 118, 0, 0),
  (118, .invokevirtual 303, 121, 140, 1),
  (121, .invokevirtual 90, 124, 165, 2),
  (124, .lreturn, 125, 0, 0)]
theorem pg_d70 : ∀ q ∈ pg_L70, decode prog_3_method_22_code q.1 = .ok (q.2.1, q.2.2.1 - q.1) := by decide +kernel
def pg_L71 : List (Nat × Instr × Nat × Nat × Nat) := [
  (0, .aload_n 0, 1, 0, 0),
  (1, .invokespecial 3, 4, 9006, 0),
  (4, .aload_n 0, 5, 0, 0),
  (5, .aload_n 1, 6, 0, 0),
  (6, .putfield 9, 9, 3, 0),
  (9, .aload_n 0, 10, 0, 0),
  (10, .aload_n 2, 11, 0, 0),
  (11, .putfield 15, 14, 3, 1),
  (14, .aload_n 0, 15, 0, 0),
  (15, .aload_n 3, 16, 0, 0),
  (16, .putfield 19, 19, 3, 2),
  (19, .aload_n 0, 20, 0, 0),
  (20, .new 22, 23, 6, 0),
  (23, .dup, 24, 0, 0),
  (24, .sipush 4128, 27, 0, 0),
  (27, .invokespecial 24, 30, 121, 1),
  (30, .putfield 27, 33, 3, 3),
  (33, .aload_n 0, 34, 0, 0),
  (34, .sipush 1536, 37, 0, 0),
  (37, .anewarray 30, 40, 6, 0),
  (40, .putfield 32, 43, 3, 4),
  (43, .iconst 0, 44, 0, 0),
  (44, .istore 5, 46, 0, 0),
  (46, .iload 5, 48, 0, 0),
  (48, .aload_n 0, 49, 0, 0),
  (49, .getfield 32, 52, 3, 4),
  (52, .arraylength, 53, 0, 0),
  (53, .if_icmp .ge 23, 56, 76, 0),
  (56, .aload_n 0, 57, 0, 0),
  (57, .getfield 32, 60, 3, 4),
  (60, .iload 5, 62, 0, 0),
  (62, .new 30, 65, 8, 0),
  (65, .dup, 66, 0, 0),
  (66, .invokespecial 36, 69, 159, 0),
  (69, .aastore, 70, 0, 0),
  (70, .iinc 5 1, 73, 0, 0),
  (73, .goto (-27), 76, 46, 0),
  (76, .aload_n 0, 77, 0, 0),
  (77, .new 30, 80, 8, 0),
  (80, .dup, 81, 0, 0),
  (81, .invokespecial 36, 84, 159, 0),
  (84, .putfield 37, 87, 3, 5),
  (87, .aload_n 0, 88, 0, 0),
  (88, .bipush 64, 90, 0, 0),
  (90, .anewarray 41, 93, 4, 0),
  (93, .putfield 43, 96, 3, 6),
  (96, .aload_n 0, 97, 0, 0),
  (97, .new 41, 100, 7, 0),
  (100, .dup, 101, 0, 0),
  (101, .aload 4, 103, 0, 0),
  (103, .iconst 0, 104, 0, 0),
  (104, .iconst 0, 105, 0, 0),
  (105, .invokespecial 46, 108, 125, 3),
  (108, .putfield 49, 111, 3, 7),
  (111, .aload_n 0, 112, 0, 0),
  (112, .sipush 4096, 115, 0, 0),
  (115, .anewarray 53, 118, 5, 0),
  (118, .putfield 55, 121, 3, 8),
  (121, .aload_n 0, 122, 0, 0),
  (122, .sipush 4128, 125, 0, 0),
  (125, .anewarray 53, 128, 5, 0),
  (128, .putfield 59, 131, 3, 9),
  (131, .aload_n 0, 132, 0, 0),
  (132, .sipush 1536, 135, 0, 0),
  (135, .anewarray 30, 138, 6, 0),
  (138, .putfield 62, 141, 3, 10),
  (141, .aload_n 0, 142, 0, 0),
  (142, .new 53, 145, 5, 0),
  (145, .dup, 146, 0, 0),
  (146, .invokespecial 65, 149, 112, 0),
  (149, .putfield 66, 152, 3, 11),
  (152, .aload_n 0, 153, 0, 0),
  (153, .new 53, 156, 5, 0),
  (156, .dup, 157, 0, 0),
  (157, .invokespecial 65, 160, 112, 0),
  (160, .putfield 70, 163, 3, 12),
  (163, .aload_n 0, 164, 0, 0),
  (164, .getfield 70, 167, 3, 12),
  (167, .ldc 73, 169, 15, 1),
  (169, .invokevirtual 75, 172, 113, 1),
  (172, .aload_n 0, 173, 0, 0),
  (173, .aload_n 0, 174, 0, 0),
  (174, .getfield 70, 177, 3, 12),
  (177, .putfield 79, 180, 3, 13),
  (180, .aload_n 0, 181, 0, 0),
  (181, .iconst (-1), 182, 0, 0),
  (182, .putfield 82, 185, 3, 18),
  (185, .return_, 186, 0, 0)]
theorem pg_d71 : ∀ q ∈ pg_L71, decode prog_4_method_1_code q.1 = .ok (q.2.1, q.2.2.1 - q.1) := by decide +kernel
def pg_L72 : List (Nat × Instr × Nat × Nat × Nat) := [
  (0, .aload_n 0, 1, 0, 0),
  (1, .invokevirtual 132, 4, 73, 0),
  (4, .iconst 0, 5, 0, 0),
  (5, .istore_n 2, 6, 0, 0),
  (6, .iload_n 2, 7, 0, 0),
  (7, .bipush 8, 9, 0, 0),
  (9, .if_icmp .ge 49, 12, 58, 0),
  (12, .aload_n 0, 13, 0, 0),
  (13, .getfield 9, 16, 3, 0),
  (16, .iload_n 2, 17, 0, 0),
  (17, .bipush 8, 19, 0, 0),
  (19, .imul, 20, 0, 0),
  (20, .aaload, 21, 0, 0),
  (21, .astore_n 3, 22, 0, 0),
  (22, .aload_n 3, 23, 0, 0),
  (23, .getfield 135, 26, 7, 4),
  (26, .iconst 1, 27, 0, 0),
  (27, .if_icmp .ne 11, 30, 38, 0),
  (30, .aload_n 0, 31, 0, 0),
  (31, .aload_n 3, 32, 0, 0),
  (32, .invokevirtual 138, 35, 75, 1),
  (35, .goto 8, 38, 43, 0),
  (38, .aload_n 0, 39, 0, 0),
  (39, .iload_n 2, 40, 0, 0),
  (40, .invokevirtual 142, 43, 84, 1),
  (43, .istore 4, 45, 0, 0),
  (45, .iload 4, 47, 0, 0),
  (47, .ifCond .ne 5, 50, 52, 0),
  (50, .iconst 1, 51, 0, 0),
  (51, .ireturn, 52, 0, 0),
  (52, .iinc 2 1, 55, 0, 0),
  (55, .goto (-49), 58, 6, 0),
  (58, .aload_n 0, 59, 0, 0),
  (59, .ldc 146, 61, 16, 1),
  (61, .iconst 0, 62, 0, 0),
  (62, .invokevirtual 148, 65, 87, 2),
  (65, .aload_n 0, 66, 0, 0),
  (66, .ldc 152, 68, 17, 1),
  (68, .iconst 1, 69, 0, 0),
  (69, .invokevirtual 148, 72, 87, 2),
  (72, .aload_n 0, 73, 0, 0),
  (73, .ldc 154, 75, 18, 1),
  (75, .iconst 2, 76, 0, 0),
  (76, .invokevirtual 148, 79, 87, 2),
  (79, .aload_n 0, 80, 0, 0),
  (80, .ldc 156, 82, 19, 1),
  (82, .iconst 3, 83, 0, 0),
  (83, .invokevirtual 148, 86, 87, 2),
  (86, .aload_n 0, 87, 0, 0),
  (87, .invokevirtual 158, 90, 88, 0),
  (90, .ifCond .eq 5, 93, 95, 0),
  (93, .iconst 2, 94, 0, 0),
  (94, .ireturn, 95, 0, 0),
  (95, .iload_n 1, 96, 0, 0),
  (96, .ifCond .eq 7, 99, 103, 0),
  (99, .aload_n 0, 100, 0, 0),
  (100, .invokevirtual 162, 103, 89, 0),
  (103, .iconst 0, 104, 0, 0),
  (104, .ireturn, 105, 0, 0)]
theorem pg_d72 : ∀ q ∈ pg_L72, decode prog_4_method_9_code q.1 = .ok (q.2.1, q.2.2.1 - q.1) := by decide +kernel
def pg_L73 : List (Nat × Instr × Nat × Nat × Nat) := [
  (0, .iconst 0, 1, 0, 0),
  (1, .istore_n 1, 2, 0, 0),
  (2, .iload_n 1, 3, 0, 0),
  (3, .aload_n 0, 4, 0, 0),
  (4, .getfield 9, 7, 3, 0),
  (7, .arraylength, 8, 0, 0),
  (8, .if_icmp .ge 29, 11, 37, 0),
  (11, .aload_n 0, 12, 0, 0),
  (12, .getfield 9, 15, 3, 0),
  (15, .iload_n 1, 16, 0, 0),
  (16, .aaload, 17, 0, 0),
  (17, .iconst 0, 18, 0, 0),
  (18, .putfield 165, 21, 7, 15),
  (21, .aload_n 0, 22, 0, 0),
  (22, .getfield 9, 25, 3, 0),
  (25, .iload_n 1, 26, 0, 0),
  (26, .aaload, 27, 0, 0),
  (27, .iconst 0, 28, 0, 0),
  (28, .putfield 167, 31, 7, 16),
  (31, .iinc 1 1, 34, 0, 0),
  (34, .goto (-32), 37, 2, 0),
  (37, .aload_n 0, 38, 0, 0),
  (38, .iconst 0, 39, 0, 0),
  (39, .putfield 86, 42, 3, 14),
  (42, .aload_n 0, 43, 0, 0),
  (43, .iconst 0, 44, 0, 0),
  (44, .putfield 89, 47, 3, 15),
  (47, .aload_n 0, 48, 0, 0),
  (48, .iconst 0, 49, 0, 0),
  (49, .putfield 170, 52, 3, 17),
  (52, .aload_n 0, 53, 0, 0),
  (53, .lconst 0, 54, 0, 0),
  (54, .putfield 173, 57, 3, 19),
  (57, .aload_n 0, 58, 0, 0),
  (58, .aload_n 0, 59, 0, 0),
  (59, .getfield 70, 62, 3, 12),
  (62, .putfield 79, 65, 3, 13),
  (65, .aload_n 0, 66, 0, 0),
  (66, .getfield 27, 69, 3, 3),
  (69, .iconst 0, 70, 0, 0),
  (70, .putfield 177, 73, 6, 2),
  (73, .iconst 0, 74, 0, 0),
  (74, .istore_n 1, 75, 0, 0),
  (75, .iload_n 1, 76, 0, 0),
  (76, .aload_n 0, 77, 0, 0),
  (77, .getfield 15, 80, 3, 1),
  (80, .getfield 177, 83, 6, 2),
  (83, .if_icmp .ge 40, 86, 123, 0),
  (86, .aload_n 0, 87, 0, 0),
  (87, .getfield 15, 90, 3, 1),
  (90, .iload_n 1, 91, 0, 0),
  (91, .invokevirtual 180, 94, 122, 1),
  (94, .astore_n 2, 95, 0, 0),
  (95, .aload_n 0, 96, 0, 0),
  (96, .aload_n 0, 97, 0, 0),
  (97, .getfield 27, 100, 3, 3),
  (100, .aload_n 2, 101, 0, 0),
  (101, .invokevirtual 184, 104, 123, 1),
  (104, .iconst 3, 105, 0, 0),
  (105, .iconst 2, 106, 0, 0),
  (106, .aconst_null, 107, 0, 0),
  (107, .aload_n 2, 108, 0, 0),
  (108, .getfield 188, 111, 5, 7),
  (111, .lconst 0, 112, 0, 0),
  (112, .bipush 16, 114, 0, 0),
  (114, .invokevirtual 191, 117, 74, 7),
  (117, .iinc 1 1, 120, 0, 0),
  (120, .goto (-45), 123, 75, 0),
  (123, .iconst 0, 124, 0, 0),
  (124, .istore_n 1, 125, 0, 0),
  (125, .iload_n 1, 126, 0, 0),
  (126, .aload_n 0, 127, 0, 0),
  (127, .getfield 19, 130, 3, 2),
  (130, .getfield 177, 133, 6, 2),
  (133, .if_icmp .ge 28, 136, 161, 0),
  (136, .aload_n 0, 137, 0, 0),
  (137, .getfield 27, 140, 3, 3),
  (140, .aload_n 0, 141, 0, 0),
  (141, .getfield 19, 144, 3, 2),
  (144, .iload_n 1, 145, 0, 0),
  (145, .invokevirtual 180, 148, 122, 1),
  (148, .invokevirtual 184, 151, 123, 1),
  (151, .iconst 1, 152, 0, 0),
  (152, .putfield 195, 155, 5, 11),
  (155, .iinc 1 1, 158, 0, 0),
  (158, .goto (-33), 161, 125, 0),
  (161, .return_, 162, 0, 0)]
theorem pg_d73 : ∀ q ∈ pg_L73, decode prog_4_method_10_code q.1 = .ok (q.2.1, q.2.2.1 - q.1) := by decide +kernel
def pg_L74 : List (Nat × Instr × Nat × Nat × Nat) := [
  (0, .aload_n 1, 1, 0, 0),
  (1, .getfield 197, 4, 5, 4),
  (4, .ifCond .ne 35, 7, 39, 0),
  (7, .aload_n 0, 8, 0, 0),
  (8, .getfield 89, 11, 3, 15),
  (11, .aload_n 0, 12, 0, 0),
  (12, .getfield 59, 15, 3, 9),
  (15, .arraylength, 16, 0, 0),
  (16, .if_icmp .ge 23, 19, 39, 0),
  (19, .aload_n 0, 20, 0, 0),
  (20, .getfield 59, 23, 3, 9),
  (23, .aload_n 0, 24, 0, 0),
  (24, .getfield 89, 27, 3, 15),
  (27, .aload_n 1, 28, 0, 0),
  (28, .aastore, 29, 0, 0),
  (29, .aload_n 0, 30, 0, 0),
  (30, .dup, 31, 0, 0),
  (31, .getfield 89, 34, 3, 15),
  (34, .iconst 1, 35, 0, 0),
  (35, .iadd, 36, 0, 0),
  (36, .putfield 89, 39, 3, 15),
  (39, .aload_n 1, 40, 0, 0),
  (40, .iload_n 2, 41, 0, 0),
  (41, .putfield 197, 44, 5, 4),
  (44, .aload_n 1, 45, 0, 0),
  (45, .iload_n 3, 46, 0, 0),
  (46, .putfield 99, 49, 5, 5),
  (49, .aload_n 1, 50, 0, 0),
  (50, .aload 4, 52, 0, 0),
  (52, .putfield 102, 55, 5, 6),
  (55, .aload_n 1, 56, 0, 0),
  (56, .lload 5, 58, 0, 0),
  (58, .putfield 188, 61, 5, 7),
  (61, .aload_n 1, 62, 0, 0),
  (62, .lload 7, 64, 0, 0),
  (64, .putfield 336, 67, 5, 8),
  (67, .aload_n 1, 68, 0, 0),
  (68, .iload 9, 70, 0, 0),
  (70, .putfield 339, 73, 5, 9),
  (73, .aload_n 1, 74, 0, 0),
  (74, .iconst 1, 75, 0, 0),
  (75, .putfield 342, 78, 5, 13),
  (78, .return_, 79, 0, 0)]
theorem pg_d74 : ∀ q ∈ pg_L74, decode prog_4_method_21_code q.1 = .ok (q.2.1, q.2.2.1 - q.1) := by decide +kernel
def pg_L75 : List (Nat × Instr × Nat × Nat × Nat) := [
  (0, .aload_n 0, 1, 0, 0),
  (1, .getfield 86, 4, 3, 14),
  (4, .aload_n 0, 5, 0, 0),
  (5, .getfield 43, 8, 3, 6),
  (8, .arraylength, 9, 0, 0),
  (9, .if_icmp .lt 5, 12, 14, 0),
  (12, .iconst 1, 13, 0, 0),
  (13, .ireturn, 14, 0, 0),
  (14, .aload_n 0, 15, 0, 0),
  (15, .getfield 86, 18, 3, 14),
  (18, .istore_n 2, 19, 0, 0),
  (19, .aload_n 0, 20, 0, 0),
  (20, .getfield 43, 23, 3, 6),
  (23, .iload_n 2, 24, 0, 0),
  (24, .aload_n 1, 25, 0, 0),
  (25, .aastore, 26, 0, 0),
  (26, .aload_n 0, 27, 0, 0),
  (27, .dup, 28, 0, 0),
  (28, .getfield 86, 31, 3, 14),
  (31, .iconst 1, 32, 0, 0),
  (32, .iadd, 33, 0, 0),
  (33, .putfield 86, 36, 3, 14),
  (36, .aload_n 1, 37, 0, 0),
  (37, .iconst 1, 38, 0, 0),
  (38, .putfield 165, 41, 7, 15),
  (41, .aload_n 0, 42, 0, 0),
  (42, .iload_n 2, 43, 0, 0),
  (43, .aload_n 1, 44, 0, 0),
  (44, .invokevirtual 231, 47, 76, 2),
  (47, .aload_n 0, 48, 0, 0),
  (48, .iload_n 2, 49, 0, 0),
  (49, .aload_n 1, 50, 0, 0),
  (50, .invokevirtual 235, 53, 78, 2),
  (53, .aload_n 0, 54, 0, 0),
  (54, .iload_n 2, 55, 0, 0),
  (55, .aload_n 1, 56, 0, 0),
  (56, .invokevirtual 238, 59, 79, 2),
  (59, .aload_n 0, 60, 0, 0),
  (60, .iload_n 2, 61, 0, 0),
  (61, .aload_n 1, 62, 0, 0),
  (62, .invokevirtual 241, 65, 82, 2),
  (65, .ireturn, 66, 0, 0)]
theorem pg_d75 : ∀ q ∈ pg_L75, decode prog_4_method_14_code q.1 = .ok (q.2.1, q.2.2.1 - q.1) := by decide +kernel
def pg_L76 : List (Nat × Instr × Nat × Nat × Nat) := [
  (0, .iconst 0, 1, 0, 0),
  (1, .istore_n 3, 2, 0, 0),
  (2, .iload_n 3, 3, 0, 0),
  (3, .bipush 24, 5, 0, 0),
  (5, .if_icmp .ge 196, 8, 201, 0),
  (8, .aload_n 0, 9, 0, 0),
  (9, .iload_n 1, 10, 0, 0),
  (10, .iload_n 3, 11, 0, 0),
  (11, .invokevirtual 118, 14, 77, 2),
  (14, .astore 4, 16, 0, 0),
  (16, .aload_n 2, 17, 0, 0),
  (17, .iload_n 3, 18, 0, 0),
  (18, .i2l, 19, 0, 0),
  (19, .invokevirtual 245, 22, 126, 1),
  (22, .istore 5, 24, 0, 0),
  (24, .aload 4, 26, 0, 0),
  (26, .iload_n 1, 27, 0, 0),
  (27, .putfield 249, 30, 8, 0),
  (30, .aload 4, 32, 0, 0),
  (32, .aload_n 2, 33, 0, 0),
  (33, .getfield 251, 36, 7, 1),
  (36, .putfield 254, 39, 8, 1),
  (39, .aload 4, 41, 0, 0),
  (41, .aload_n 2, 42, 0, 0),
  (42, .getfield 255, 45, 7, 2),
  (45, .putfield 258, 48, 8, 2),
  (48, .aload 4, 50, 0, 0),
  (50, .iload_n 3, 51, 0, 0),
  (51, .putfield 259, 54, 8, 3),
  (54, .aload 4, 56, 0, 0),
  (56, .iload 5, 58, 0, 0),
  (58, .putfield 262, 61, 8, 4),
  (61, .aload 4, 63, 0, 0),
  (63, .iload 5, 65, 0, 0),
  (65, .ifCond .ge 7, 68, 72, 0),
  (68, .iconst 0, 69, 0, 0),
  (69, .goto 4, 72, 73, 0),
  (72, .iconst 1, 73, 0, 0),
  (73, .putfield 121, 76, 8, 8),
  (76, .aload 4, 78, 0, 0),
  (78, .iload 5, 80, 0, 0),
  (80, .ifCond .lt 7, 83, 87, 0),
  (83, .iconst 1, 84, 0, 0),
  (84, .goto 4, 87, 88, 0),
  (87, .iconst 0, 88, 0, 0),
  (88, .putfield 128, 91, 8, 9),
  (91, .aload 4, 93, 0, 0),
  (93, .iload 5, 95, 0, 0),
  (95, .ifCond .ge 7, 98, 102, 0),
  (98, .iconst 0, 99, 0, 0),
  (99, .goto 9, 102, 108, 0),
  (102, .aload_n 2, 103, 0, 0),
  (103, .iload_n 3, 104, 0, 0),
  (104, .invokevirtual 265, 107, 127, 1),
  (107, .l2i, 108, 0, 0),
  (108, .putfield 269, 111, 8, 5),
  (111, .aload 4, 113, 0, 0),
  (113, .iload 5, 115, 0, 0),
  (115, .ifCond .ge 7, 118, 122, 0),
  (118, .iconst 1, 119, 0, 0),
  (119, .goto 13, 122, 132, 0),
  (122, .lconst 1, 123, 0, 0),
  (123, .aload_n 2, 124, 0, 0),
  (124, .iload_n 3, 125, 0, 0),
  (125, .invokevirtual 272, 128, 129, 1),
  (128, .invokestatic 275, 131, 9003, 0),
  (131, .l2i, 132, 0, 0),
  (132, .putfield 281, 135, 8, 6),
  (135, .aload 4, 137, 0, 0),
  (137, .iload 5, 139, 0, 0),
  (139, .ifCond .ge 7, 142, 146, 0),
  (142, .iconst 0, 143, 0, 0),
  (143, .goto 14, 146, 157, 0),
  (146, .aload_n 2, 147, 0, 0),
  (147, .getfield 284, 150, 7, 5),
  (150, .aload_n 2, 151, 0, 0),
  (151, .iload_n 3, 152, 0, 0),
  (152, .invokevirtual 287, 155, 130, 1),
  (155, .l2i, 156, 0, 0),
  (156, .iadd, 157, 0, 0),
  (157, .putfield 290, 160, 8, 7),
  (160, .aload 4, 162, 0, 0),
  (162, .iload 5, 164, 0, 0),
  (164, .ifCond .lt 15, 167, 179, 0),
  (167, .aload_n 2, 168, 0, 0),
  (168, .iload_n 3, 169, 0, 0),
  (169, .invokevirtual 292, 172, 131, 1),
  (172, .ifCond .eq 7, 175, 179, 0),
  (175, .iconst 1, 176, 0, 0),
  (176, .goto 4, 179, 180, 0),
  (179, .iconst 0, 180, 0, 0),
  (180, .putfield 295, 183, 8, 10),
  (183, .aload 4, 185, 0, 0),
  (185, .lconst 0, 186, 0, 0),
  (186, .putfield 298, 189, 8, 11),
  (189, .aload 4, 191, 0, 0),
  (191, .iconst 0, 192, 0, 0),
  (192, .putfield 301, 195, 8, 12),
  (195, .iinc 3 1, 198, 0, 0),
  (198, .goto (-196), 201, 2, 0),
  (201, .return_, 202, 0, 0)]
theorem pg_d76 : ∀ q ∈ pg_L76, decode prog_4_method_15_code q.1 = .ok (q.2.1, q.2.2.1 - q.1) := by decide +kernel
def pg_L77 : List (Nat × Instr × Nat × Nat × Nat) := [
  (0, .iload_n 1, 1, 0, 0),
  (1, .bipush 24, 3, 0, 0),
  (3, .imul, 4, 0, 0),
  (4, .iload_n 2, 5, 0, 0),
  (5, .iadd, 6, 0, 0),
  (6, .istore_n 3, 7, 0, 0),
  (7, .iload_n 3, 8, 0, 0),
  (8, .ifCond .lt 21, 11, 29, 0),
  (11, .iload_n 3, 12, 0, 0),
  (12, .aload_n 0, 13, 0, 0),
  (13, .getfield 32, 16, 3, 4),
  (16, .arraylength, 17, 0, 0),
  (17, .if_icmp .ge 12, 20, 29, 0),
  (20, .aload_n 0, 21, 0, 0),
  (21, .getfield 32, 24, 3, 4),
  (24, .iload_n 3, 25, 0, 0),
  (25, .aaload, 26, 0, 0),
  (26, .goto 7, 29, 33, 0),
  (29, .aload_n 0, 30, 0, 0),
  (30, .getfield 37, 33, 3, 5),
  (33, .areturn, 34, 0, 0)]
theorem pg_d77 : ∀ q ∈ pg_L77, decode prog_4_method_3_code q.1 = .ok (q.2.1, q.2.2.1 - q.1) := by decide +kernel
def pg_L78 : List (Nat × Instr × Nat × Nat × Nat) := [
  (0, .iconst 0, 1, 0, 0),
  (1, .istore_n 3, 2, 0, 0),
  (2, .iload_n 3, 3, 0, 0),
  (3, .bipush 64, 5, 0, 0),
  (5, .if_icmp .ge 62, 8, 67, 0),
  (8, .aconst_null, 9, 0, 0),
  (9, .astore 4, 11, 0, 0),
  (11, .aload_n 2, 12, 0, 0),
  (12, .iload_n 3, 13, 0, 0),
  (13, .invokevirtual 304, 16, 132, 1),
  (16, .ifCond .eq 32, 19, 48, 0),
  (19, .aload_n 0, 20, 0, 0),
  (20, .getfield 66, 23, 3, 11),
  (23, .aload_n 2, 24, 0, 0),
  (24, .getfield 213, 27, 7, 0),
  (27, .aload_n 2, 28, 0, 0),
  (28, .iload_n 3, 29, 0, 0),
  (29, .invokevirtual 217, 32, 133, 1),
  (32, .invokevirtual 220, 35, 117, 2),
  (35, .aload_n 0, 36, 0, 0),
  (36, .getfield 27, 39, 3, 3),
  (39, .aload_n 0, 40, 0, 0),
  (40, .getfield 66, 43, 3, 11),
  (43, .invokevirtual 184, 46, 123, 1),
  (46, .astore 4, 48, 0, 0),
  (48, .aload_n 0, 49, 0, 0),
  (49, .getfield 55, 52, 3, 8),
  (52, .iload_n 1, 53, 0, 0),
  (53, .bipush 64, 55, 0, 0),
  (55, .imul, 56, 0, 0),
  (56, .iload_n 3, 57, 0, 0),
  (57, .iadd, 58, 0, 0),
  (58, .aload 4, 60, 0, 0),
  (60, .aastore, 61, 0, 0),
  (61, .iinc 3 1, 64, 0, 0),
  (64, .goto (-62), 67, 2, 0),
  (67, .return_, 68, 0, 0)]
theorem pg_d78 : ∀ q ∈ pg_L78, decode prog_4_method_16_code q.1 = .ok (q.2.1, q.2.2.1 - q.1) := by decide +kernel
def pg_L79 : List (Nat × Instr × Nat × Nat × Nat) := [
  (0, .iconst 0, 1, 0, 0),
  (1, .istore_n 3, 2, 0, 0),
  (2, .iload_n 3, 3, 0, 0),
  (3, .aload_n 2, 4, 0, 0),
  (4, .getfield 307, 7, 7, 8),
  (7, .if_icmp .ge 103, 10, 110, 0),
  (10, .aload_n 2, 11, 0, 0),
  (11, .iload_n 3, 12, 0, 0),
  (12, .invokevirtual 287, 15, 130, 1),
  (15, .l2i, 16, 0, 0),
  (16, .istore 4, 18, 0, 0),
  (18, .aload_n 2, 19, 0, 0),
  (19, .iload_n 3, 20, 0, 0),
  (20, .invokevirtual 310, 23, 134, 1),
  (23, .ldc2_w 313, 26, 29, 0),
  (26, .lcmp, 27, 0, 0),
  (27, .ifCond .ne 77, 30, 104, 0),
  (30, .aload_n 2, 31, 0, 0),
  (31, .iload 4, 33, 0, 0),
  (33, .iconst 4, 34, 0, 0),
  (34, .invokevirtual 112, 37, 128, 2),
  (37, .lconst 1, 38, 0, 0),
  (38, .lcmp, 39, 0, 0),
  (39, .ifCond .eq 6, 42, 45, 0),
  (42, .goto 62, 45, 104, 0),
  (45, .aload_n 0, 46, 0, 0),
  (46, .iload_n 1, 47, 0, 0),
  (47, .aload_n 2, 48, 0, 0),
  (48, .iload_n 3, 49, 0, 0),
  (49, .invokevirtual 315, 52, 135, 1),
  (52, .l2i, 53, 0, 0),
  (53, .invokevirtual 95, 56, 80, 2),
  (56, .astore 5, 58, 0, 0),
  (58, .aload 5, 60, 0, 0),
  (60, .ifnonnull 6, 63, 66, 0),
  (63, .goto 41, 66, 104, 0),
  (66, .aload 5, 68, 0, 0),
  (68, .getfield 318, 71, 5, 12),
  (71, .ifCond .eq 27, 74, 98, 0),
  (74, .aload_n 0, 75, 0, 0),
  (75, .dup, 76, 0, 0),
  (76, .getfield 170, 79, 3, 17),
  (79, .iconst 1, 80, 0, 0),
  (80, .iadd, 81, 0, 0),
  (81, .putfield 170, 84, 3, 17),
  (84, .aload_n 0, 85, 0, 0),
  (85, .iload_n 1, 86, 0, 0),
  (86, .aload_n 2, 87, 0, 0),
  (87, .iload 4, 89, 0, 0),
  (89, .aload_n 2, 90, 0, 0),
  (90, .iload_n 3, 91, 0, 0),
  (91, .invokevirtual 265, 94, 127, 1),
  (94, .l2i, 95, 0, 0),
  (95, .invokevirtual 321, 98, 81, 4),
  (98, .aload 5, 100, 0, 0),
  (100, .iconst 1, 101, 0, 0),
  (101, .putfield 318, 104, 5, 12),
  (104, .iinc 3 1, 107, 0, 0),
  (107, .goto (-105), 110, 2, 0),
  (110, .return_, 111, 0, 0)]
theorem pg_d79 : ∀ q ∈ pg_L79, decode prog_4_method_17_code q.1 = .ok (q.2.1, q.2.2.1 - q.1) := by decide +kernel
def pg_C4 : List (List (Nat × Instr × Nat × Nat × Nat)) := [pg_L64, pg_L65, pg_L66, pg_L67, pg_L68, pg_L69, pg_L70, pg_L71, pg_L72, pg_L73, pg_L74, pg_L75, pg_L76, pg_L77, pg_L78, pg_L79]
end
