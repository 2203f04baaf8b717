def R_J : String := "MarkupJudge"
def T_J : u_T := fun k => match k with
  | 0 => ("MarkupJudge", "bytes", "[B", true)
  | 1 => ("MarkupJudge", "count", "I", false)
  | 2 => ("MarkupJudge", "store", "LMarkupJudge$Store;", true)
  | 3 => ("MarkupJudge", "reader", "LMarkupJudge$Reader;", true)
  | 4 => ("MarkupJudge", "entities", "LMarkupJudge$Entities;", true)
  | 5 => ("MarkupJudge", "declared", "LMarkupJudge$Declared;", true)
  | 6 => ("MarkupJudge", "doctype", "LMarkupJudge$Doctype;", true)
  | 7 => ("MarkupJudge", "tree", "LMarkupJudge$Tree;", true)
  | 8 => ("MarkupJudge", "content", "LMarkupJudge$Content;", true)
  | 9 => ("MarkupJudge", "validator", "LMarkupJudge$Validator;", true)
  | 10 => ("MarkupJudge", "meanings", "LMarkupJudge$Meanings;", true)
  | 11 => ("MarkupJudge", "writer", "LMarkupJudge$Writer;", true)
  | 12 => ("MarkupJudge", "atHand", "Z", false)
  | 13 => ("MarkupJudge", "lastFault", "I", false)
  | _ => ("MarkupJudge", "lastPlace", "I", false)
def t_J : Nat → FieldType := fun k => match k with
  | 0 => .array .byte
  | 1 => .int
  | 2 => .object "MarkupJudge$Store"
  | 3 => .object "MarkupJudge$Reader"
  | 4 => .object "MarkupJudge$Entities"
  | 5 => .object "MarkupJudge$Declared"
  | 6 => .object "MarkupJudge$Doctype"
  | 7 => .object "MarkupJudge$Tree"
  | 8 => .object "MarkupJudge$Content"
  | 9 => .object "MarkupJudge$Validator"
  | 10 => .object "MarkupJudge$Meanings"
  | 11 => .object "MarkupJudge$Writer"
  | 12 => .boolean
  | 13 => .int
  | _ => .int
theorem n_J : ∀ a, a < 15 → ∀ b, b < 15 → a ≠ b → (T_J a).2.1 ≠ (T_J b).2.1 := by decide +kernel
theorem o_J : ∀ k, k < 15 → parseFieldDescriptor (T_J k).2.2.1 = some (t_J k) := by decide +kernel
def R_Store : String := "MarkupJudge$Store"
def T_Store : u_T := fun k => match k with
  | 0 => ("MarkupJudge$Store", "room", "I", true)
  | 1 => ("MarkupJudge$Store", "chars", "[I", true)
  | 2 => ("MarkupJudge$Store", "begin", "I", true)
  | 3 => ("MarkupJudge$Store", "top", "I", false)
  | 4 => ("MarkupJudge$Store", "length", "I", false)
  | 5 => ("MarkupJudge$Store", "wide", "Z", false)
  | 6 => ("MarkupJudge$Store", "behindReturn", "Z", false)
  | 7 => ("MarkupJudge$Store", "from", "[I", true)
  | 8 => ("MarkupJudge$Store", "size", "[I", true)
  | 9 => ("MarkupJudge$Store", "hash", "[I", true)
  | 10 => ("MarkupJudge$Store", "next", "[I", true)
  | 11 => ("MarkupJudge$Store", "head", "[I", true)
  | 12 => ("MarkupJudge$Store", "lasting", "I", true)
  | 13 => ("MarkupJudge$Store", "sought", "I", false)
  | 14 => ("MarkupJudge$Store", "words", "I", false)
  | 15 => ("MarkupJudge$Store", "mark", "[I", true)
  | _ => ("MarkupJudge$Store", "stamp", "I", false)
def t_Store : Nat → FieldType := fun k => match k with
  | 0 => .int
  | 1 => .array .int
  | 2 => .int
  | 3 => .int
  | 4 => .int
  | 5 => .boolean
  | 6 => .boolean
  | 7 => .array .int
  | 8 => .array .int
  | 9 => .array .int
  | 10 => .array .int
  | 11 => .array .int
  | 12 => .int
  | 13 => .int
  | 14 => .int
  | 15 => .array .int
  | _ => .int
theorem n_Store : ∀ a, a < 17 → ∀ b, b < 17 → a ≠ b → (T_Store a).2.1 ≠ (T_Store b).2.1 := by decide +kernel
theorem o_Store : ∀ k, k < 17 → parseFieldDescriptor (T_Store k).2.2.1 = some (t_Store k) := by decide +kernel
def R_Reader : String := "MarkupJudge$Reader"
def T_Reader : u_T := fun k => match k with
  | 0 => ("MarkupJudge$Reader", "store", "LMarkupJudge$Store;", true)
  | 1 => ("MarkupJudge$Reader", "chars", "[I", true)
  | 2 => ("MarkupJudge$Reader", "pos", "I", false)
  | 3 => ("MarkupJudge$Reader", "stop", "I", false)
  | 4 => ("MarkupJudge$Reader", "fault", "I", false)
  | 5 => ("MarkupJudge$Reader", "place", "I", false)
  | 6 => ("MarkupJudge$Reader", "colons", "I", false)
  | 7 => ("MarkupJudge$Reader", "code", "I", false)
  | 8 => ("MarkupJudge$Reader", "word", "I", false)
  | 9 => ("MarkupJudge$Reader", "wordSize", "I", false)
  | 10 => ("MarkupJudge$Reader", "inner", "I", false)
  | _ => ("MarkupJudge$Reader", "innerSize", "I", false)
def t_Reader : Nat → FieldType := fun k => match k with
  | 0 => .object "MarkupJudge$Store"
  | 1 => .array .int
  | 2 => .int
  | 3 => .int
  | 4 => .int
  | 5 => .int
  | 6 => .int
  | 7 => .int
  | 8 => .int
  | 9 => .int
  | 10 => .int
  | _ => .int
theorem n_Reader : ∀ a, a < 12 → ∀ b, b < 12 → a ≠ b → (T_Reader a).2.1 ≠ (T_Reader b).2.1 := by decide +kernel
theorem o_Reader : ∀ k, k < 12 → parseFieldDescriptor (T_Reader k).2.2.1 = some (t_Reader k) := by decide +kernel
def R_Entities : String := "MarkupJudge$Entities"
def T_Entities : u_T := fun k => match k with
  | 0 => ("MarkupJudge$Entities", "store", "LMarkupJudge$Store;", true)
  | 1 => ("MarkupJudge$Entities", "reader", "LMarkupJudge$Reader;", true)
  | 2 => ("MarkupJudge$Entities", "from", "[I", true)
  | 3 => ("MarkupJudge$Entities", "size", "[I", true)
  | 4 => ("MarkupJudge$Entities", "open", "[Z", true)
  | 5 => ("MarkupJudge$Entities", "declarations", "I", false)
  | 6 => ("MarkupJudge$Entities", "general", "[I", true)
  | 7 => ("MarkupJudge$Entities", "parameter", "[I", true)
  | 8 => ("MarkupJudge$Entities", "framePos", "[I", true)
  | 9 => ("MarkupJudge$Entities", "frameStop", "[I", true)
  | 10 => ("MarkupJudge$Entities", "frameEntity", "[I", true)
  | 11 => ("MarkupJudge$Entities", "frameElement", "[I", true)
  | 12 => ("MarkupJudge$Entities", "depth", "I", false)
  | 13 => ("MarkupJudge$Entities", "counted", "I", false)
  | 14 => ("MarkupJudge$Entities", "missing", "I", false)
  | 15 => ("MarkupJudge$Entities", "standalone", "Z", false)
  | _ => ("MarkupJudge$Entities", "parameterSeen", "Z", false)
def t_Entities : Nat → FieldType := fun k => match k with
  | 0 => .object "MarkupJudge$Store"
  | 1 => .object "MarkupJudge$Reader"
  | 2 => .array .int
  | 3 => .array .int
  | 4 => .array .boolean
  | 5 => .int
  | 6 => .array .int
  | 7 => .array .int
  | 8 => .array .int
  | 9 => .array .int
  | 10 => .array .int
  | 11 => .array .int
  | 12 => .int
  | 13 => .int
  | 14 => .int
  | 15 => .boolean
  | _ => .boolean
theorem n_Entities : ∀ a, a < 17 → ∀ b, b < 17 → a ≠ b → (T_Entities a).2.1 ≠ (T_Entities b).2.1 := by decide +kernel
theorem o_Entities : ∀ k, k < 17 → parseFieldDescriptor (T_Entities k).2.2.1 = some (t_Entities k) := by decide +kernel
def R_Declared : String := "MarkupJudge$Declared"
def T_Declared : u_T := fun k => match k with
  | 0 => ("MarkupJudge$Declared", "element", "[I", true)
  | 1 => ("MarkupJudge$Declared", "kind", "[I", true)
  | 2 => ("MarkupJudge$Declared", "source", "[I", true)
  | 3 => ("MarkupJudge$Declared", "elementCount", "I", false)
  | 4 => ("MarkupJudge$Declared", "elementOf", "[I", true)
  | 5 => ("MarkupJudge$Declared", "label", "[I", true)
  | 6 => ("MarkupJudge$Declared", "type", "[I", true)
  | 7 => ("MarkupJudge$Declared", "how", "[I", true)
  | 8 => ("MarkupJudge$Declared", "value", "[I", true)
  | 9 => ("MarkupJudge$Declared", "list", "[I", true)
  | 10 => ("MarkupJudge$Declared", "listSize", "[I", true)
  | 11 => ("MarkupJudge$Declared", "next", "[I", true)
  | 12 => ("MarkupJudge$Declared", "attributeCount", "I", false)
  | 13 => ("MarkupJudge$Declared", "firstOf", "[I", true)
  | 14 => ("MarkupJudge$Declared", "last", "I", false)
  | 15 => ("MarkupJudge$Declared", "listed", "[I", true)
  | 16 => ("MarkupJudge$Declared", "listedCount", "I", false)
  | 17 => ("MarkupJudge$Declared", "notation", "[I", true)
  | _ => ("MarkupJudge$Declared", "notationsAgain", "I", false)
def t_Declared : Nat → FieldType := fun k => match k with
  | 0 => .array .int
  | 1 => .array .int
  | 2 => .array .int
  | 3 => .int
  | 4 => .array .int
  | 5 => .array .int
  | 6 => .array .int
  | 7 => .array .int
  | 8 => .array .int
  | 9 => .array .int
  | 10 => .array .int
  | 11 => .array .int
  | 12 => .int
  | 13 => .array .int
  | 14 => .int
  | 15 => .array .int
  | 16 => .int
  | 17 => .array .int
  | _ => .int
theorem n_Declared : ∀ a, a < 19 → ∀ b, b < 19 → a ≠ b → (T_Declared a).2.1 ≠ (T_Declared b).2.1 := by decide +kernel
theorem o_Declared : ∀ k, k < 19 → parseFieldDescriptor (T_Declared k).2.2.1 = some (t_Declared k) := by decide +kernel
def R_Doctype : String := "MarkupJudge$Doctype"
def T_Doctype : u_T := fun k => match k with
  | 0 => ("MarkupJudge$Doctype", "store", "LMarkupJudge$Store;", true)
  | 1 => ("MarkupJudge$Doctype", "reader", "LMarkupJudge$Reader;", true)
  | 2 => ("MarkupJudge$Doctype", "entities", "LMarkupJudge$Entities;", true)
  | 3 => ("MarkupJudge$Doctype", "declared", "LMarkupJudge$Declared;", true)
  | 4 => ("MarkupJudge$Doctype", "separator", "[B", true)
  | 5 => ("MarkupJudge$Doctype", "seen", "Z", false)
  | 6 => ("MarkupJudge$Doctype", "open", "Z", false)
  | 7 => ("MarkupJudge$Doctype", "root", "I", false)
  | 8 => ("MarkupJudge$Doctype", "names", "I", false)
  | _ => ("MarkupJudge$Doctype", "deepest", "I", false)
def t_Doctype : Nat → FieldType := fun k => match k with
  | 0 => .object "MarkupJudge$Store"
  | 1 => .object "MarkupJudge$Reader"
  | 2 => .object "MarkupJudge$Entities"
  | 3 => .object "MarkupJudge$Declared"
  | 4 => .array .byte
  | 5 => .boolean
  | 6 => .boolean
  | 7 => .int
  | 8 => .int
  | _ => .int
theorem n_Doctype : ∀ a, a < 10 → ∀ b, b < 10 → a ≠ b → (T_Doctype a).2.1 ≠ (T_Doctype b).2.1 := by decide +kernel
theorem o_Doctype : ∀ k, k < 10 → parseFieldDescriptor (T_Doctype k).2.2.1 = some (t_Doctype k) := by decide +kernel
def R_Tree : String := "MarkupJudge$Tree"
def T_Tree : u_T := fun k => match k with
  | 0 => ("MarkupJudge$Tree", "most", "I", true)
  | 1 => ("MarkupJudge$Tree", "nodes", "I", false)
  | 2 => ("MarkupJudge$Tree", "elements", "I", false)
  | 3 => ("MarkupJudge$Tree", "open", "I", false)
  | 4 => ("MarkupJudge$Tree", "tag", "[I", true)
  | 5 => ("MarkupJudge$Tree", "above", "[I", true)
  | 6 => ("MarkupJudge$Tree", "first", "[I", true)
  | 7 => ("MarkupJudge$Tree", "all", "[I", true)
  | 8 => ("MarkupJudge$Tree", "given", "[I", true)
  | 9 => ("MarkupJudge$Tree", "content", "[I", true)
  | 10 => ("MarkupJudge$Tree", "attributeCount", "I", false)
  | 11 => ("MarkupJudge$Tree", "label", "[I", true)
  | 12 => ("MarkupJudge$Tree", "value", "[I", true)
  | 13 => ("MarkupJudge$Tree", "declaration", "[I", true)
  | 14 => ("MarkupJudge$Tree", "stream", "[I", true)
  | 15 => ("MarkupJudge$Tree", "streamSize", "I", false)
  | _ => ("MarkupJudge$Tree", "letters", "I", false)
def t_Tree : Nat → FieldType := fun k => match k with
  | 0 => .int
  | 1 => .int
  | 2 => .int
  | 3 => .int
  | 4 => .array .int
  | 5 => .array .int
  | 6 => .array .int
  | 7 => .array .int
  | 8 => .array .int
  | 9 => .array .int
  | 10 => .int
  | 11 => .array .int
  | 12 => .array .int
  | 13 => .array .int
  | 14 => .array .int
  | 15 => .int
  | _ => .int
theorem n_Tree : ∀ a, a < 17 → ∀ b, b < 17 → a ≠ b → (T_Tree a).2.1 ≠ (T_Tree b).2.1 := by decide +kernel
theorem o_Tree : ∀ k, k < 17 → parseFieldDescriptor (T_Tree k).2.2.1 = some (t_Tree k) := by decide +kernel
def R_Content : String := "MarkupJudge$Content"
def T_Content : u_T := fun k => match k with
  | 0 => ("MarkupJudge$Content", "store", "LMarkupJudge$Store;", true)
  | 1 => ("MarkupJudge$Content", "reader", "LMarkupJudge$Reader;", true)
  | 2 => ("MarkupJudge$Content", "entities", "LMarkupJudge$Entities;", true)
  | 3 => ("MarkupJudge$Content", "declared", "LMarkupJudge$Declared;", true)
  | 4 => ("MarkupJudge$Content", "doctype", "LMarkupJudge$Doctype;", true)
  | _ => ("MarkupJudge$Content", "tree", "LMarkupJudge$Tree;", true)
def t_Content : Nat → FieldType := fun k => match k with
  | 0 => .object "MarkupJudge$Store"
  | 1 => .object "MarkupJudge$Reader"
  | 2 => .object "MarkupJudge$Entities"
  | 3 => .object "MarkupJudge$Declared"
  | 4 => .object "MarkupJudge$Doctype"
  | _ => .object "MarkupJudge$Tree"
theorem n_Content : ∀ a, a < 6 → ∀ b, b < 6 → a ≠ b → (T_Content a).2.1 ≠ (T_Content b).2.1 := by decide +kernel
theorem o_Content : ∀ k, k < 6 → parseFieldDescriptor (T_Content k).2.2.1 = some (t_Content k) := by decide +kernel
def R_Validator : String := "MarkupJudge$Validator"
def T_Validator : u_T := fun k => match k with
  | 0 => ("MarkupJudge$Validator", "store", "LMarkupJudge$Store;", true)
  | 1 => ("MarkupJudge$Validator", "reader", "LMarkupJudge$Reader;", true)
  | 2 => ("MarkupJudge$Validator", "entities", "LMarkupJudge$Entities;", true)
  | 3 => ("MarkupJudge$Validator", "declared", "LMarkupJudge$Declared;", true)
  | 4 => ("MarkupJudge$Validator", "doctype", "LMarkupJudge$Doctype;", true)
  | 5 => ("MarkupJudge$Validator", "tree", "LMarkupJudge$Tree;", true)
  | 6 => ("MarkupJudge$Validator", "model", "LMarkupJudge$Model;", true)
  | 7 => ("MarkupJudge$Validator", "counts", "[I", true)
  | 8 => ("MarkupJudge$Validator", "child", "[I", true)
  | 9 => ("MarkupJudge$Validator", "sibling", "[I", true)
  | 10 => ("MarkupJudge$Validator", "alike", "[I", true)
  | 11 => ("MarkupJudge$Validator", "firstAlike", "[I", true)
  | 12 => ("MarkupJudge$Validator", "applied", "[I", true)
  | _ => ("MarkupJudge$Validator", "identityMark", "I", false)
def t_Validator : Nat → FieldType := fun k => match k with
  | 0 => .object "MarkupJudge$Store"
  | 1 => .object "MarkupJudge$Reader"
  | 2 => .object "MarkupJudge$Entities"
  | 3 => .object "MarkupJudge$Declared"
  | 4 => .object "MarkupJudge$Doctype"
  | 5 => .object "MarkupJudge$Tree"
  | 6 => .object "MarkupJudge$Model"
  | 7 => .array .int
  | 8 => .array .int
  | 9 => .array .int
  | 10 => .array .int
  | 11 => .array .int
  | 12 => .array .int
  | _ => .int
theorem n_Validator : ∀ a, a < 14 → ∀ b, b < 14 → a ≠ b → (T_Validator a).2.1 ≠ (T_Validator b).2.1 := by decide +kernel
theorem o_Validator : ∀ k, k < 14 → parseFieldDescriptor (T_Validator k).2.2.1 = some (t_Validator k) := by decide +kernel
def R_Model : String := "MarkupJudge$Model"
def T_Model : u_T := fun k => match k with
  | 0 => ("MarkupJudge$Model", "store", "LMarkupJudge$Store;", true)
  | 1 => ("MarkupJudge$Model", "reader", "LMarkupJudge$Reader;", true)
  | 2 => ("MarkupJudge$Model", "names", "[I", true)
  | 3 => ("MarkupJudge$Model", "count", "I", false)
  | 4 => ("MarkupJudge$Model", "follow", "[I", true)
  | 5 => ("MarkupJudge$Model", "first", "[I", true)
  | 6 => ("MarkupJudge$Model", "last", "[I", true)
  | 7 => ("MarkupJudge$Model", "skippable", "[Z", true)
  | 8 => ("MarkupJudge$Model", "begun", "[Z", true)
  | 9 => ("MarkupJudge$Model", "separator", "[I", true)
  | 10 => ("MarkupJudge$Model", "may", "[I", true)
  | 11 => ("MarkupJudge$Model", "then", "[I", true)
  | _ => ("MarkupJudge$Model", "complete", "Z", false)
def t_Model : Nat → FieldType := fun k => match k with
  | 0 => .object "MarkupJudge$Store"
  | 1 => .object "MarkupJudge$Reader"
  | 2 => .array .int
  | 3 => .int
  | 4 => .array .int
  | 5 => .array .int
  | 6 => .array .int
  | 7 => .array .boolean
  | 8 => .array .boolean
  | 9 => .array .int
  | 10 => .array .int
  | 11 => .array .int
  | _ => .boolean
theorem n_Model : ∀ a, a < 13 → ∀ b, b < 13 → a ≠ b → (T_Model a).2.1 ≠ (T_Model b).2.1 := by decide +kernel
theorem o_Model : ∀ k, k < 13 → parseFieldDescriptor (T_Model k).2.2.1 = some (t_Model k) := by decide +kernel
def R_Meanings : String := "MarkupJudge$Meanings"
def T_Meanings : u_T := fun k => match k with
  | 0 => ("MarkupJudge$Meanings", "store", "LMarkupJudge$Store;", true)
  | 1 => ("MarkupJudge$Meanings", "tree", "LMarkupJudge$Tree;", true)
  | 2 => ("MarkupJudge$Meanings", "prefixOf", "[I", true)
  | 3 => ("MarkupJudge$Meanings", "localOf", "[I", true)
  | 4 => ("MarkupJudge$Meanings", "meant", "[I", true)
  | 5 => ("MarkupJudge$Meanings", "outside", "[I", true)
  | 6 => ("MarkupJudge$Meanings", "counts", "[I", true)
  | _ => ("MarkupJudge$Meanings", "relative", "Z", false)
def t_Meanings : Nat → FieldType := fun k => match k with
  | 0 => .object "MarkupJudge$Store"
  | 1 => .object "MarkupJudge$Tree"
  | 2 => .array .int
  | 3 => .array .int
  | 4 => .array .int
  | 5 => .array .int
  | 6 => .array .int
  | _ => .boolean
theorem n_Meanings : ∀ a, a < 8 → ∀ b, b < 8 → a ≠ b → (T_Meanings a).2.1 ≠ (T_Meanings b).2.1 := by decide +kernel
theorem o_Meanings : ∀ k, k < 8 → parseFieldDescriptor (T_Meanings k).2.2.1 = some (t_Meanings k) := by decide +kernel
def R_Writer : String := "MarkupJudge$Writer"
def T_Writer : u_T := fun k => match k with
  | 0 => ("MarkupJudge$Writer", "store", "LMarkupJudge$Store;", true)
  | 1 => ("MarkupJudge$Writer", "tree", "LMarkupJudge$Tree;", true)
  | 2 => ("MarkupJudge$Writer", "meanings", "LMarkupJudge$Meanings;", true)
  | 3 => ("MarkupJudge$Writer", "product", "[B", false)
  | 4 => ("MarkupJudge$Writer", "size", "I", false)
  | 5 => ("MarkupJudge$Writer", "draft", "[B", false)
  | 6 => ("MarkupJudge$Writer", "drafted", "I", false)
  | 7 => ("MarkupJudge$Writer", "full", "Z", false)
  | 8 => ("MarkupJudge$Writer", "open", "I", false)
  | 9 => ("MarkupJudge$Writer", "behind", "Z", false)
  | _ => ("MarkupJudge$Writer", "order", "[I", true)
def t_Writer : Nat → FieldType := fun k => match k with
  | 0 => .object "MarkupJudge$Store"
  | 1 => .object "MarkupJudge$Tree"
  | 2 => .object "MarkupJudge$Meanings"
  | 3 => .array .byte
  | 4 => .int
  | 5 => .array .byte
  | 6 => .int
  | 7 => .boolean
  | 8 => .int
  | 9 => .boolean
  | _ => .array .int
theorem n_Writer : ∀ a, a < 11 → ∀ b, b < 11 → a ≠ b → (T_Writer a).2.1 ≠ (T_Writer b).2.1 := by decide +kernel
theorem o_Writer : ∀ k, k < 11 → parseFieldDescriptor (T_Writer k).2.2.1 = some (t_Writer k) := by decide +kernel
def R_K : String := "MarkupJudgeModel"
def T_K : u_T := fun k => match k with
  | 0 => ("MarkupJudgeModel", "room", "I", true)
  | 1 => ("MarkupJudgeModel", "nodes", "I", true)
  | 2 => ("MarkupJudgeModel", "bytes", "[B", true)
  | 3 => ("MarkupJudgeModel", "size", "I", false)
  | 4 => ("MarkupJudgeModel", "reader", "LMarkupJudgeModel$Reader;", true)
  | 5 => ("MarkupJudgeModel", "doc", "LMarkupJudgeModel$Doc;", true)
  | 6 => ("MarkupJudgeModel", "hasDoc", "Z", false)
  | 7 => ("MarkupJudgeModel", "other", "LMarkupJudgeModel$Doc;", true)
  | 8 => ("MarkupJudgeModel", "product", "[B", true)
  | 9 => ("MarkupJudgeModel", "produced", "I", false)
  | 10 => ("MarkupJudgeModel", "writer", "LMarkupJudgeModel$Writer;", true)
  | 11 => ("MarkupJudgeModel", "code", "I", false)
  | 12 => ("MarkupJudgeModel", "fault", "I", false)
  | _ => ("MarkupJudgeModel", "place", "I", false)
def t_K : Nat → FieldType := fun k => match k with
  | 0 => .int
  | 1 => .int
  | 2 => .array .byte
  | 3 => .int
  | 4 => .object "MarkupJudgeModel$Reader"
  | 5 => .object "MarkupJudgeModel$Doc"
  | 6 => .boolean
  | 7 => .object "MarkupJudgeModel$Doc"
  | 8 => .array .byte
  | 9 => .int
  | 10 => .object "MarkupJudgeModel$Writer"
  | 11 => .int
  | 12 => .int
  | _ => .int
theorem n_K : ∀ a, a < 14 → ∀ b, b < 14 → a ≠ b → (T_K a).2.1 ≠ (T_K b).2.1 := by decide +kernel
theorem o_K : ∀ k, k < 14 → parseFieldDescriptor (T_K k).2.2.1 = some (t_K k) := by decide +kernel
def R_KBook : String := "MarkupJudgeModel$Book"
def T_KBook : u_T := fun k => match k with
  | 0 => ("MarkupJudgeModel$Book", "pool", "[I", true)
  | 1 => ("MarkupJudgeModel$Book", "used", "I", false)
  | 2 => ("MarkupJudgeModel$Book", "starts", "[I", true)
  | 3 => ("MarkupJudgeModel$Book", "lengths", "[I", true)
  | 4 => ("MarkupJudgeModel$Book", "nexts", "[I", true)
  | 5 => ("MarkupJudgeModel$Book", "buckets", "[I", true)
  | _ => ("MarkupJudgeModel$Book", "count", "I", false)
def t_KBook : Nat → FieldType := fun k => match k with
  | 0 => .array .int
  | 1 => .int
  | 2 => .array .int
  | 3 => .array .int
  | 4 => .array .int
  | 5 => .array .int
  | _ => .int
theorem n_KBook : ∀ a, a < 7 → ∀ b, b < 7 → a ≠ b → (T_KBook a).2.1 ≠ (T_KBook b).2.1 := by decide +kernel
theorem o_KBook : ∀ k, k < 7 → parseFieldDescriptor (T_KBook k).2.2.1 = some (t_KBook k) := by decide +kernel
def R_KDoc : String := "MarkupJudgeModel$Doc"
def T_KDoc : u_T := fun k => match k with
  | 0 => ("MarkupJudgeModel$Doc", "book", "LMarkupJudgeModel$Book;", true)
  | 1 => ("MarkupJudgeModel$Doc", "pool", "[I", true)
  | 2 => ("MarkupJudgeModel$Doc", "used", "I", false)
  | 3 => ("MarkupJudgeModel$Doc", "names", "[I", true)
  | 4 => ("MarkupJudgeModel$Doc", "parents", "[I", true)
  | 5 => ("MarkupJudgeModel$Doc", "firsts", "[I", true)
  | 6 => ("MarkupJudgeModel$Doc", "counts", "[I", true)
  | 7 => ("MarkupJudgeModel$Doc", "elements", "I", false)
  | 8 => ("MarkupJudgeModel$Doc", "attributeNames", "[I", true)
  | 9 => ("MarkupJudgeModel$Doc", "valueStarts", "[I", true)
  | 10 => ("MarkupJudgeModel$Doc", "valueLengths", "[I", true)
  | 11 => ("MarkupJudgeModel$Doc", "types", "[B", true)
  | 12 => ("MarkupJudgeModel$Doc", "prefixes", "[I", true)
  | 13 => ("MarkupJudgeModel$Doc", "locals", "[I", true)
  | 14 => ("MarkupJudgeModel$Doc", "attributes", "I", false)
  | 15 => ("MarkupJudgeModel$Doc", "events", "[I", true)
  | 16 => ("MarkupJudgeModel$Doc", "eventCount", "I", false)
  | 17 => ("MarkupJudgeModel$Doc", "lastText", "I", false)
  | 18 => ("MarkupJudgeModel$Doc", "violations", "[I", true)
  | 19 => ("MarkupJudgeModel$Doc", "spaces", "[I", true)
  | 20 => ("MarkupJudgeModel$Doc", "characters", "I", false)
  | 21 => ("MarkupJudgeModel$Doc", "counted", "I", false)
  | _ => ("MarkupJudgeModel$Doc", "borrows", "Z", true)
def t_KDoc : Nat → FieldType := fun k => match k with
  | 0 => .object "MarkupJudgeModel$Book"
  | 1 => .array .int
  | 2 => .int
  | 3 => .array .int
  | 4 => .array .int
  | 5 => .array .int
  | 6 => .array .int
  | 7 => .int
  | 8 => .array .int
  | 9 => .array .int
  | 10 => .array .int
  | 11 => .array .byte
  | 12 => .array .int
  | 13 => .array .int
  | 14 => .int
  | 15 => .array .int
  | 16 => .int
  | 17 => .int
  | 18 => .array .int
  | 19 => .array .int
  | 20 => .int
  | 21 => .int
  | _ => .boolean
theorem n_KDoc : ∀ a, a < 23 → ∀ b, b < 23 → a ≠ b → (T_KDoc a).2.1 ≠ (T_KDoc b).2.1 := by decide +kernel
theorem o_KDoc : ∀ k, k < 23 → parseFieldDescriptor (T_KDoc k).2.2.1 = some (t_KDoc k) := by decide +kernel
def R_KReader : String := "MarkupJudgeModel$Reader"
def T_KReader : u_T := fun k => match k with
  | 0 => ("MarkupJudgeModel$Reader", "room", "I", false)
  | 1 => ("MarkupJudgeModel$Reader", "nodes", "I", false)
  | 2 => ("MarkupJudgeModel$Reader", "doc", "LMarkupJudgeModel$Doc;", false)
  | 3 => ("MarkupJudgeModel$Reader", "fault", "I", false)
  | 4 => ("MarkupJudgeModel$Reader", "place", "I", false)
  | 5 => ("MarkupJudgeModel$Reader", "chars", "[I", true)
  | 6 => ("MarkupJudgeModel$Reader", "charCount", "I", false)
  | 7 => ("MarkupJudgeModel$Reader", "textLength", "I", false)
  | 8 => ("MarkupJudgeModel$Reader", "wide", "Z", false)
  | 9 => ("MarkupJudgeModel$Reader", "froms", "[I", true)
  | 10 => ("MarkupJudgeModel$Reader", "ends", "[I", true)
  | 11 => ("MarkupJudgeModel$Reader", "owners", "[I", true)
  | 12 => ("MarkupJudgeModel$Reader", "opened", "[I", true)
  | 13 => ("MarkupJudgeModel$Reader", "serials", "[I", true)
  | 14 => ("MarkupJudgeModel$Reader", "depth", "I", false)
  | 15 => ("MarkupJudgeModel$Reader", "serial", "I", false)
  | 16 => ("MarkupJudgeModel$Reader", "at", "I", false)
  | 17 => ("MarkupJudgeModel$Reader", "end", "I", false)
  | 18 => ("MarkupJudgeModel$Reader", "basePlace", "I", false)
  | 19 => ("MarkupJudgeModel$Reader", "phase", "I", false)
  | 20 => ("MarkupJudgeModel$Reader", "declared", "Z", false)
  | 21 => ("MarkupJudgeModel$Reader", "headSaysYes", "Z", false)
  | 22 => ("MarkupJudgeModel$Reader", "wentThroughParameter", "Z", false)
  | 23 => ("MarkupJudgeModel$Reader", "hadRoot", "Z", false)
  | 24 => ("MarkupJudgeModel$Reader", "rootDeclared", "I", false)
  | 25 => ("MarkupJudgeModel$Reader", "counted", "I", false)
  | 26 => ("MarkupJudgeModel$Reader", "nodeCount", "I", false)
  | 27 => ("MarkupJudgeModel$Reader", "entityNames", "[I", true)
  | 28 => ("MarkupJudgeModel$Reader", "entityParameters", "[Z", true)
  | 29 => ("MarkupJudgeModel$Reader", "entityStarts", "[I", true)
  | 30 => ("MarkupJudgeModel$Reader", "entityLengths", "[I", true)
  | 31 => ("MarkupJudgeModel$Reader", "entityBusy", "[Z", true)
  | 32 => ("MarkupJudgeModel$Reader", "entities", "I", false)
  | 33 => ("MarkupJudgeModel$Reader", "notations", "[I", true)
  | 34 => ("MarkupJudgeModel$Reader", "notationCount", "I", false)
  | 35 => ("MarkupJudgeModel$Reader", "identified", "[Z", true)
  | 36 => ("MarkupJudgeModel$Reader", "contentNames", "[I", true)
  | 37 => ("MarkupJudgeModel$Reader", "kinds", "[B", true)
  | 38 => ("MarkupJudgeModel$Reader", "models", "[I", true)
  | 39 => ("MarkupJudgeModel$Reader", "modelCounts", "[I", true)
  | 40 => ("MarkupJudgeModel$Reader", "declarations", "I", false)
  | 41 => ("MarkupJudgeModel$Reader", "nodeKinds", "[B", true)
  | 42 => ("MarkupJudgeModel$Reader", "often", "[B", true)
  | 43 => ("MarkupJudgeModel$Reader", "nodeNames", "[I", true)
  | 44 => ("MarkupJudgeModel$Reader", "children", "[I", true)
  | 45 => ("MarkupJudgeModel$Reader", "siblings", "[I", true)
  | 46 => ("MarkupJudgeModel$Reader", "above", "[I", true)
  | 47 => ("MarkupJudgeModel$Reader", "modelNodes", "I", false)
  | 48 => ("MarkupJudgeModel$Reader", "ofElement", "[I", true)
  | 49 => ("MarkupJudgeModel$Reader", "ofName", "[I", true)
  | 50 => ("MarkupJudgeModel$Reader", "ofType", "[B", true)
  | 51 => ("MarkupJudgeModel$Reader", "ofDefault", "[B", true)
  | 52 => ("MarkupJudgeModel$Reader", "givenStarts", "[I", true)
  | 53 => ("MarkupJudgeModel$Reader", "givenLengths", "[I", true)
  | 54 => ("MarkupJudgeModel$Reader", "listStarts", "[I", true)
  | 55 => ("MarkupJudgeModel$Reader", "listCounts", "[I", true)
  | 56 => ("MarkupJudgeModel$Reader", "declaredAttributes", "I", false)
  | 57 => ("MarkupJudgeModel$Reader", "lists", "[I", true)
  | 58 => ("MarkupJudgeModel$Reader", "listed", "I", false)
  | 59 => ("MarkupJudgeModel$Reader", "openElements", "[I", true)
  | 60 => ("MarkupJudgeModel$Reader", "openSerials", "[I", true)
  | 61 => ("MarkupJudgeModel$Reader", "openTouched", "[Z", true)
  | 62 => ("MarkupJudgeModel$Reader", "openSpoiled", "[Z", true)
  | 63 => ("MarkupJudgeModel$Reader", "openBase", "[I", true)
  | 64 => ("MarkupJudgeModel$Reader", "open", "I", false)
  | 65 => ("MarkupJudgeModel$Reader", "childNames", "[I", true)
  | 66 => ("MarkupJudgeModel$Reader", "childCount", "I", false)
  | 67 => ("MarkupJudgeModel$Reader", "valueAt", "[I", true)
  | 68 => ("MarkupJudgeModel$Reader", "valueEnd", "[I", true)
  | 69 => ("MarkupJudgeModel$Reader", "valueOwner", "[I", true)
  | 70 => ("MarkupJudgeModel$Reader", "leaf", "[I", true)
  | 71 => ("MarkupJudgeModel$Reader", "now", "[Z", true)
  | 72 => ("MarkupJudgeModel$Reader", "later", "[Z", true)
  | 73 => ("MarkupJudgeModel$Reader", "laterComplete", "Z", false)
  | 74 => ("MarkupJudgeModel$Reader", "groups", "[B", true)
  | 75 => ("MarkupJudgeModel$Reader", "decoded", "I", false)
  | 76 => ("MarkupJudgeModel$Reader", "names", "I", false)
  | 77 => ("MarkupJudgeModel$Reader", "deep", "Z", false)
  | 78 => ("MarkupJudgeModel$Reader", "type", "I", false)
  | 79 => ("MarkupJudgeModel$Reader", "typeList", "I", false)
  | 80 => ("MarkupJudgeModel$Reader", "pcdata", "Z", false)
  | 81 => ("MarkupJudgeModel$Reader", "defaultKind", "I", false)
  | _ => ("MarkupJudgeModel$Reader", "valueFrom", "I", false)
def t_KReader : Nat → FieldType := fun k => match k with
  | 0 => .int
  | 1 => .int
  | 2 => .object "MarkupJudgeModel$Doc"
  | 3 => .int
  | 4 => .int
  | 5 => .array .int
  | 6 => .int
  | 7 => .int
  | 8 => .boolean
  | 9 => .array .int
  | 10 => .array .int
  | 11 => .array .int
  | 12 => .array .int
  | 13 => .array .int
  | 14 => .int
  | 15 => .int
  | 16 => .int
  | 17 => .int
  | 18 => .int
  | 19 => .int
  | 20 => .boolean
  | 21 => .boolean
  | 22 => .boolean
  | 23 => .boolean
  | 24 => .int
  | 25 => .int
  | 26 => .int
  | 27 => .array .int
  | 28 => .array .boolean
  | 29 => .array .int
  | 30 => .array .int
  | 31 => .array .boolean
  | 32 => .int
  | 33 => .array .int
  | 34 => .int
  | 35 => .array .boolean
  | 36 => .array .int
  | 37 => .array .byte
  | 38 => .array .int
  | 39 => .array .int
  | 40 => .int
  | 41 => .array .byte
  | 42 => .array .byte
  | 43 => .array .int
  | 44 => .array .int
  | 45 => .array .int
  | 46 => .array .int
  | 47 => .int
  | 48 => .array .int
  | 49 => .array .int
  | 50 => .array .byte
  | 51 => .array .byte
  | 52 => .array .int
  | 53 => .array .int
  | 54 => .array .int
  | 55 => .array .int
  | 56 => .int
  | 57 => .array .int
  | 58 => .int
  | 59 => .array .int
  | 60 => .array .int
  | 61 => .array .boolean
  | 62 => .array .boolean
  | 63 => .array .int
  | 64 => .int
  | 65 => .array .int
  | 66 => .int
  | 67 => .array .int
  | 68 => .array .int
  | 69 => .array .int
  | 70 => .array .int
  | 71 => .array .boolean
  | 72 => .array .boolean
  | 73 => .boolean
  | 74 => .array .byte
  | 75 => .int
  | 76 => .int
  | 77 => .boolean
  | 78 => .int
  | 79 => .int
  | 80 => .boolean
  | 81 => .int
  | _ => .int
theorem n_KReader : ∀ a, a < 83 → ∀ b, b < 83 → a ≠ b → (T_KReader a).2.1 ≠ (T_KReader b).2.1 := by decide +kernel
theorem o_KReader : ∀ k, k < 83 → parseFieldDescriptor (T_KReader k).2.2.1 = some (t_KReader k) := by decide +kernel
def R_KWriter : String := "MarkupJudgeModel$Writer"
def T_KWriter : u_T := fun k => match k with
  | 0 => ("MarkupJudgeModel$Writer", "row", "[B", true)
  | 1 => ("MarkupJudgeModel$Writer", "doc", "LMarkupJudgeModel$Doc;", false)
  | 2 => ("MarkupJudgeModel$Writer", "reader", "LMarkupJudgeModel$Reader;", false)
  | 3 => ("MarkupJudgeModel$Writer", "mode", "I", false)
  | 4 => ("MarkupJudgeModel$Writer", "size", "I", false)
  | 5 => ("MarkupJudgeModel$Writer", "differs", "Z", false)
  | 6 => ("MarkupJudgeModel$Writer", "order", "[I", true)
  | 7 => ("MarkupJudgeModel$Writer", "open", "[I", true)
  | 8 => ("MarkupJudgeModel$Writer", "depth", "I", false)
  | 9 => ("MarkupJudgeModel$Writer", "letters", "I", false)
  | 10 => ("MarkupJudgeModel$Writer", "lastPrefix", "I", false)
  | 11 => ("MarkupJudgeModel$Writer", "lastMeaning", "I", false)
  | _ => ("MarkupJudgeModel$Writer", "meanings", "[I", true)
def t_KWriter : Nat → FieldType := fun k => match k with
  | 0 => .array .byte
  | 1 => .object "MarkupJudgeModel$Doc"
  | 2 => .object "MarkupJudgeModel$Reader"
  | 3 => .int
  | 4 => .int
  | 5 => .boolean
  | 6 => .array .int
  | 7 => .array .int
  | 8 => .int
  | 9 => .int
  | 10 => .int
  | 11 => .int
  | _ => .array .int
theorem n_KWriter : ∀ a, a < 13 → ∀ b, b < 13 → a ≠ b → (T_KWriter a).2.1 ≠ (T_KWriter b).2.1 := by decide +kernel
theorem o_KWriter : ∀ k, k < 13 → parseFieldDescriptor (T_KWriter k).2.2.1 = some (t_KWriter k) := by decide +kernel
abbrev vC : List vw_C := [(R_J, T_J, 15), (R_Store, T_Store, 17), (R_Reader, T_Reader, 12), (R_Entities, T_Entities, 17), (R_Declared, T_Declared, 19), (R_Doctype, T_Doctype, 10), (R_Tree, T_Tree, 17), (R_Content, T_Content, 6), (R_Validator, T_Validator, 14), (R_Model, T_Model, 13), (R_Meanings, T_Meanings, 8), (R_Writer, T_Writer, 11), (R_K, T_K, 14), (R_KBook, T_KBook, 7), (R_KDoc, T_KDoc, 23), (R_KReader, T_KReader, 83), (R_KWriter, T_KWriter, 13)]
def R_L : String := "MarkupJudgeLaw"
/-- the tables' words that ride along to a callee -/
def lwG : List Cond := lw_tbl.filter goodWord
theorem s_1 {w : Cond} (h : w ∈ tables_1_1) (g : goodWord w = true) : w ∈ lwG := List.mem_filter.mpr ⟨List.mem_append_right _ (List.mem_append_left _ h), g⟩
theorem s_2 {w : Cond} (h : w ∈ tables_1_2) (g : goodWord w = true) : w ∈ lwG := List.mem_filter.mpr ⟨List.mem_append_right _ (List.mem_append_right _ (List.mem_append_left _ h)), g⟩
theorem s_3 {w : Cond} (h : w ∈ tables_1_3) (g : goodWord w = true) : w ∈ lwG := List.mem_filter.mpr ⟨List.mem_append_right _ (List.mem_append_right _ (List.mem_append_right _ (List.mem_append_left _ h))), g⟩
theorem s_4 {w : Cond} (h : w ∈ tables_1_4) (g : goodWord w = true) : w ∈ lwG := List.mem_filter.mpr ⟨List.mem_append_right _ (List.mem_append_right _ (List.mem_append_right _ (List.mem_append_right _ (List.mem_append_left _ h)))), g⟩
theorem s_5 {w : Cond} (h : w ∈ tables_1_5) (g : goodWord w = true) : w ∈ lwG := List.mem_filter.mpr ⟨List.mem_append_right _ (List.mem_append_right _ (List.mem_append_right _ (List.mem_append_right _ (List.mem_append_right _ (List.mem_append_left _ h))))), g⟩
theorem s_6 {w : Cond} (h : w ∈ tables_1_6) (g : goodWord w = true) : w ∈ lwG := List.mem_filter.mpr ⟨List.mem_append_right _ (List.mem_append_right _ (List.mem_append_right _ (List.mem_append_right _ (List.mem_append_right _ (List.mem_append_right _ (List.mem_append_left _ h)))))), g⟩
theorem s_7 {w : Cond} (h : w ∈ tables_1_7) (g : goodWord w = true) : w ∈ lwG := List.mem_filter.mpr ⟨List.mem_append_right _ (List.mem_append_right _ (List.mem_append_right _ (List.mem_append_right _ (List.mem_append_right _ (List.mem_append_right _ (List.mem_append_right _ (List.mem_append_left _ h))))))), g⟩
theorem s_8 {w : Cond} (h : w ∈ tables_1_8) (g : goodWord w = true) : w ∈ lwG := List.mem_filter.mpr ⟨List.mem_append_right _ (List.mem_append_right _ (List.mem_append_right _ (List.mem_append_right _ (List.mem_append_right _ (List.mem_append_right _ (List.mem_append_right _ (List.mem_append_right _ (List.mem_append_left _ h)))))))), g⟩
theorem s_9 {w : Cond} (h : w ∈ tables_1_9) (g : goodWord w = true) : w ∈ lwG := List.mem_filter.mpr ⟨List.mem_append_right _ (List.mem_append_right _ (List.mem_append_right _ (List.mem_append_right _ (List.mem_append_right _ (List.mem_append_right _ (List.mem_append_right _ (List.mem_append_right _ (List.mem_append_right _ (List.mem_append_left _ h))))))))), g⟩
theorem s_10 {w : Cond} (h : w ∈ tables_1_10) (g : goodWord w = true) : w ∈ lwG := List.mem_filter.mpr ⟨List.mem_append_right _ (List.mem_append_right _ (List.mem_append_right _ (List.mem_append_right _ (List.mem_append_right _ (List.mem_append_right _ (List.mem_append_right _ (List.mem_append_right _ (List.mem_append_right _ (List.mem_append_right _ (List.mem_append_left _ h)))))))))), g⟩
theorem s_11 {w : Cond} (h : w ∈ tables_1_11) (g : goodWord w = true) : w ∈ lwG := List.mem_filter.mpr ⟨List.mem_append_right _ (List.mem_append_right _ (List.mem_append_right _ (List.mem_append_right _ (List.mem_append_right _ (List.mem_append_right _ (List.mem_append_right _ (List.mem_append_right _ (List.mem_append_right _ (List.mem_append_right _ (List.mem_append_right _ (List.mem_append_left _ h))))))))))), g⟩
theorem s_12 {w : Cond} (h : w ∈ tables_1_12) (g : goodWord w = true) : w ∈ lwG := List.mem_filter.mpr ⟨List.mem_append_right _ (List.mem_append_right _ (List.mem_append_right _ (List.mem_append_right _ (List.mem_append_right _ (List.mem_append_right _ (List.mem_append_right _ (List.mem_append_right _ (List.mem_append_right _ (List.mem_append_right _ (List.mem_append_right _ (List.mem_append_right _ (List.mem_append_left _ h)))))))))))), g⟩
theorem s_13 {w : Cond} (h : w ∈ tables_1_13) (g : goodWord w = true) : w ∈ lwG := List.mem_filter.mpr ⟨List.mem_append_right _ (List.mem_append_right _ (List.mem_append_right _ (List.mem_append_right _ (List.mem_append_right _ (List.mem_append_right _ (List.mem_append_right _ (List.mem_append_right _ (List.mem_append_right _ (List.mem_append_right _ (List.mem_append_right _ (List.mem_append_right _ (List.mem_append_right _ (List.mem_append_left _ h))))))))))))), g⟩
theorem s_14 {w : Cond} (h : w ∈ tables_1_14) (g : goodWord w = true) : w ∈ lwG := List.mem_filter.mpr ⟨List.mem_append_right _ (List.mem_append_right _ (List.mem_append_right _ (List.mem_append_right _ (List.mem_append_right _ (List.mem_append_right _ (List.mem_append_right _ (List.mem_append_right _ (List.mem_append_right _ (List.mem_append_right _ (List.mem_append_right _ (List.mem_append_right _ (List.mem_append_right _ (List.mem_append_right _ (List.mem_append_left _ h)))))))))))))), g⟩
theorem s_15 {w : Cond} (h : w ∈ tables_1_15) (g : goodWord w = true) : w ∈ lwG := List.mem_filter.mpr ⟨List.mem_append_right _ (List.mem_append_right _ (List.mem_append_right _ (List.mem_append_right _ (List.mem_append_right _ (List.mem_append_right _ (List.mem_append_right _ (List.mem_append_right _ (List.mem_append_right _ (List.mem_append_right _ (List.mem_append_right _ (List.mem_append_right _ (List.mem_append_right _ (List.mem_append_right _ (List.mem_append_right _ (h))))))))))))))), g⟩
theorem w_arrI : (Jvm.Cond.arrayClass Jvm.ClassFile.FieldType.int) ∈ lwG := s_1 (List.mem_of_getElem? (i := 225) rfl) rfl
theorem w_arrB : (Jvm.Cond.arrayClass Jvm.ClassFile.FieldType.byte) ∈ lwG := s_1 (List.mem_of_getElem? (i := 224) rfl) rfl
theorem w_arrZ : (Jvm.Cond.arrayClass Jvm.ClassFile.FieldType.boolean) ∈ lwG := s_2 (List.mem_of_getElem? (i := 118) rfl) rfl
theorem w_arrL : (Jvm.Cond.arrayClass Jvm.ClassFile.FieldType.long) ∈ lwG := s_15 (List.mem_of_getElem? (i := 82) rfl) rfl
theorem w_objI : (Jvm.Cond.instanceMethod ({ cls := "java/lang/Object", name := "<init>", desc := "()V" } : Jvm.MethodName)) ∈ lwG := s_1 (List.mem_of_getElem? (i := 41) rfl) rfl
theorem w_objC : Cond.code Lib.objectInit ⟨#[0xb1]⟩ 1 none ∈ lwG := s_1 (List.mem_of_getElem? (i := 42) rfl) rfl
theorem w_801 : (Jvm.Cond.laysFinal "MarkupJudge" "MarkupJudge" "bytes" "[B") ∈ lwG := s_4 (List.mem_of_getElem? (i := 81) rfl) rfl
theorem w_803 : (Jvm.Cond.lays "MarkupJudge" "MarkupJudge" "count" "I") ∈ lwG := s_4 (List.mem_of_getElem? (i := 83) rfl) rfl
theorem w_805 : (Jvm.Cond.laysFinal "MarkupJudge" "MarkupJudge" "store" "LMarkupJudge$Store;") ∈ lwG := s_4 (List.mem_of_getElem? (i := 85) rfl) rfl
theorem w_807 : (Jvm.Cond.laysFinal "MarkupJudge" "MarkupJudge" "reader" "LMarkupJudge$Reader;") ∈ lwG := s_4 (List.mem_of_getElem? (i := 87) rfl) rfl
theorem w_809 : (Jvm.Cond.laysFinal "MarkupJudge" "MarkupJudge" "entities" "LMarkupJudge$Entities;") ∈ lwG := s_4 (List.mem_of_getElem? (i := 89) rfl) rfl
theorem w_811 : (Jvm.Cond.laysFinal "MarkupJudge" "MarkupJudge" "declared" "LMarkupJudge$Declared;") ∈ lwG := s_4 (List.mem_of_getElem? (i := 91) rfl) rfl
theorem w_813 : (Jvm.Cond.laysFinal "MarkupJudge" "MarkupJudge" "doctype" "LMarkupJudge$Doctype;") ∈ lwG := s_4 (List.mem_of_getElem? (i := 93) rfl) rfl
theorem w_815 : (Jvm.Cond.laysFinal "MarkupJudge" "MarkupJudge" "tree" "LMarkupJudge$Tree;") ∈ lwG := s_4 (List.mem_of_getElem? (i := 95) rfl) rfl
theorem w_817 : (Jvm.Cond.laysFinal "MarkupJudge" "MarkupJudge" "content" "LMarkupJudge$Content;") ∈ lwG := s_4 (List.mem_of_getElem? (i := 97) rfl) rfl
theorem w_819 : (Jvm.Cond.laysFinal "MarkupJudge" "MarkupJudge" "validator" "LMarkupJudge$Validator;") ∈ lwG := s_4 (List.mem_of_getElem? (i := 99) rfl) rfl
theorem w_821 : (Jvm.Cond.laysFinal "MarkupJudge" "MarkupJudge" "meanings" "LMarkupJudge$Meanings;") ∈ lwG := s_4 (List.mem_of_getElem? (i := 101) rfl) rfl
theorem w_823 : (Jvm.Cond.laysFinal "MarkupJudge" "MarkupJudge" "writer" "LMarkupJudge$Writer;") ∈ lwG := s_4 (List.mem_of_getElem? (i := 103) rfl) rfl
theorem w_825 : (Jvm.Cond.lays "MarkupJudge" "MarkupJudge" "atHand" "Z") ∈ lwG := s_4 (List.mem_of_getElem? (i := 105) rfl) rfl
theorem w_827 : (Jvm.Cond.lays "MarkupJudge" "MarkupJudge" "lastFault" "I") ∈ lwG := s_4 (List.mem_of_getElem? (i := 107) rfl) rfl
theorem w_829 : (Jvm.Cond.lays "MarkupJudge" "MarkupJudge" "lastPlace" "I") ∈ lwG := s_4 (List.mem_of_getElem? (i := 109) rfl) rfl
set_option maxRecDepth 100000 in
theorem i_J : ∀ w ∈ u_ws R_J T_J 15, w ∈ lwG := List.forall_mem_cons.mpr ⟨w_801, List.forall_mem_cons.mpr ⟨w_803, List.forall_mem_cons.mpr ⟨w_805, List.forall_mem_cons.mpr ⟨w_807, List.forall_mem_cons.mpr ⟨w_809, List.forall_mem_cons.mpr ⟨w_811, List.forall_mem_cons.mpr ⟨w_813, List.forall_mem_cons.mpr ⟨w_815, List.forall_mem_cons.mpr ⟨w_817, List.forall_mem_cons.mpr ⟨w_819, List.forall_mem_cons.mpr ⟨w_821, List.forall_mem_cons.mpr ⟨w_823, List.forall_mem_cons.mpr ⟨w_825, List.forall_mem_cons.mpr ⟨w_827, List.forall_mem_cons.mpr ⟨w_829, fun _ h => absurd h List.not_mem_nil⟩⟩⟩⟩⟩⟩⟩⟩⟩⟩⟩⟩⟩⟩⟩
theorem k_J : vC[0]? = some (R_J, T_J, 15) := rfl
theorem w_189 : (Jvm.Cond.laysFinal "MarkupJudge$Store" "MarkupJudge$Store" "room" "I") ∈ lwG := s_1 (List.mem_of_getElem? (i := 189) rfl) rfl
theorem w_191 : (Jvm.Cond.laysFinal "MarkupJudge$Store" "MarkupJudge$Store" "chars" "[I") ∈ lwG := s_1 (List.mem_of_getElem? (i := 191) rfl) rfl
theorem w_193 : (Jvm.Cond.laysFinal "MarkupJudge$Store" "MarkupJudge$Store" "begin" "I") ∈ lwG := s_1 (List.mem_of_getElem? (i := 193) rfl) rfl
theorem w_195 : (Jvm.Cond.lays "MarkupJudge$Store" "MarkupJudge$Store" "top" "I") ∈ lwG := s_1 (List.mem_of_getElem? (i := 195) rfl) rfl
theorem w_197 : (Jvm.Cond.lays "MarkupJudge$Store" "MarkupJudge$Store" "length" "I") ∈ lwG := s_1 (List.mem_of_getElem? (i := 197) rfl) rfl
theorem w_199 : (Jvm.Cond.lays "MarkupJudge$Store" "MarkupJudge$Store" "wide" "Z") ∈ lwG := s_1 (List.mem_of_getElem? (i := 199) rfl) rfl
theorem w_201 : (Jvm.Cond.lays "MarkupJudge$Store" "MarkupJudge$Store" "behindReturn" "Z") ∈ lwG := s_1 (List.mem_of_getElem? (i := 201) rfl) rfl
theorem w_203 : (Jvm.Cond.laysFinal "MarkupJudge$Store" "MarkupJudge$Store" "from" "[I") ∈ lwG := s_1 (List.mem_of_getElem? (i := 203) rfl) rfl
theorem w_205 : (Jvm.Cond.laysFinal "MarkupJudge$Store" "MarkupJudge$Store" "size" "[I") ∈ lwG := s_1 (List.mem_of_getElem? (i := 205) rfl) rfl
theorem w_207 : (Jvm.Cond.laysFinal "MarkupJudge$Store" "MarkupJudge$Store" "hash" "[I") ∈ lwG := s_1 (List.mem_of_getElem? (i := 207) rfl) rfl
theorem w_209 : (Jvm.Cond.laysFinal "MarkupJudge$Store" "MarkupJudge$Store" "next" "[I") ∈ lwG := s_1 (List.mem_of_getElem? (i := 209) rfl) rfl
theorem w_211 : (Jvm.Cond.laysFinal "MarkupJudge$Store" "MarkupJudge$Store" "head" "[I") ∈ lwG := s_1 (List.mem_of_getElem? (i := 211) rfl) rfl
theorem w_213 : (Jvm.Cond.laysFinal "MarkupJudge$Store" "MarkupJudge$Store" "lasting" "I") ∈ lwG := s_1 (List.mem_of_getElem? (i := 213) rfl) rfl
theorem w_215 : (Jvm.Cond.lays "MarkupJudge$Store" "MarkupJudge$Store" "sought" "I") ∈ lwG := s_1 (List.mem_of_getElem? (i := 215) rfl) rfl
theorem w_217 : (Jvm.Cond.lays "MarkupJudge$Store" "MarkupJudge$Store" "words" "I") ∈ lwG := s_1 (List.mem_of_getElem? (i := 217) rfl) rfl
theorem w_219 : (Jvm.Cond.laysFinal "MarkupJudge$Store" "MarkupJudge$Store" "mark" "[I") ∈ lwG := s_1 (List.mem_of_getElem? (i := 219) rfl) rfl
theorem w_221 : (Jvm.Cond.lays "MarkupJudge$Store" "MarkupJudge$Store" "stamp" "I") ∈ lwG := s_1 (List.mem_of_getElem? (i := 221) rfl) rfl
set_option maxRecDepth 100000 in
theorem i_Store : ∀ w ∈ u_ws R_Store T_Store 17, w ∈ lwG := List.forall_mem_cons.mpr ⟨w_189, List.forall_mem_cons.mpr ⟨w_191, List.forall_mem_cons.mpr ⟨w_193, List.forall_mem_cons.mpr ⟨w_195, List.forall_mem_cons.mpr ⟨w_197, List.forall_mem_cons.mpr ⟨w_199, List.forall_mem_cons.mpr ⟨w_201, List.forall_mem_cons.mpr ⟨w_203, List.forall_mem_cons.mpr ⟨w_205, List.forall_mem_cons.mpr ⟨w_207, List.forall_mem_cons.mpr ⟨w_209, List.forall_mem_cons.mpr ⟨w_211, List.forall_mem_cons.mpr ⟨w_213, List.forall_mem_cons.mpr ⟨w_215, List.forall_mem_cons.mpr ⟨w_217, List.forall_mem_cons.mpr ⟨w_219, List.forall_mem_cons.mpr ⟨w_221, fun _ h => absurd h List.not_mem_nil⟩⟩⟩⟩⟩⟩⟩⟩⟩⟩⟩⟩⟩⟩⟩⟩⟩
theorem k_Store : vC[1]? = some (R_Store, T_Store, 17) := rfl
theorem w_269 : (Jvm.Cond.laysFinal "MarkupJudge$Reader" "MarkupJudge$Reader" "store" "LMarkupJudge$Store;") ∈ lwG := s_2 (List.mem_of_getElem? (i := 29) rfl) rfl
theorem w_271 : (Jvm.Cond.laysFinal "MarkupJudge$Reader" "MarkupJudge$Reader" "chars" "[I") ∈ lwG := s_2 (List.mem_of_getElem? (i := 31) rfl) rfl
theorem w_273 : (Jvm.Cond.lays "MarkupJudge$Reader" "MarkupJudge$Reader" "pos" "I") ∈ lwG := s_2 (List.mem_of_getElem? (i := 33) rfl) rfl
theorem w_275 : (Jvm.Cond.lays "MarkupJudge$Reader" "MarkupJudge$Reader" "stop" "I") ∈ lwG := s_2 (List.mem_of_getElem? (i := 35) rfl) rfl
theorem w_277 : (Jvm.Cond.lays "MarkupJudge$Reader" "MarkupJudge$Reader" "fault" "I") ∈ lwG := s_2 (List.mem_of_getElem? (i := 37) rfl) rfl
theorem w_279 : (Jvm.Cond.lays "MarkupJudge$Reader" "MarkupJudge$Reader" "place" "I") ∈ lwG := s_2 (List.mem_of_getElem? (i := 39) rfl) rfl
theorem w_281 : (Jvm.Cond.lays "MarkupJudge$Reader" "MarkupJudge$Reader" "colons" "I") ∈ lwG := s_2 (List.mem_of_getElem? (i := 41) rfl) rfl
theorem w_283 : (Jvm.Cond.lays "MarkupJudge$Reader" "MarkupJudge$Reader" "code" "I") ∈ lwG := s_2 (List.mem_of_getElem? (i := 43) rfl) rfl
theorem w_285 : (Jvm.Cond.lays "MarkupJudge$Reader" "MarkupJudge$Reader" "word" "I") ∈ lwG := s_2 (List.mem_of_getElem? (i := 45) rfl) rfl
theorem w_287 : (Jvm.Cond.lays "MarkupJudge$Reader" "MarkupJudge$Reader" "wordSize" "I") ∈ lwG := s_2 (List.mem_of_getElem? (i := 47) rfl) rfl
theorem w_289 : (Jvm.Cond.lays "MarkupJudge$Reader" "MarkupJudge$Reader" "inner" "I") ∈ lwG := s_2 (List.mem_of_getElem? (i := 49) rfl) rfl
theorem w_291 : (Jvm.Cond.lays "MarkupJudge$Reader" "MarkupJudge$Reader" "innerSize" "I") ∈ lwG := s_2 (List.mem_of_getElem? (i := 51) rfl) rfl
set_option maxRecDepth 100000 in
theorem i_Reader : ∀ w ∈ u_ws R_Reader T_Reader 12, w ∈ lwG := List.forall_mem_cons.mpr ⟨w_269, List.forall_mem_cons.mpr ⟨w_271, List.forall_mem_cons.mpr ⟨w_273, List.forall_mem_cons.mpr ⟨w_275, List.forall_mem_cons.mpr ⟨w_277, List.forall_mem_cons.mpr ⟨w_279, List.forall_mem_cons.mpr ⟨w_281, List.forall_mem_cons.mpr ⟨w_283, List.forall_mem_cons.mpr ⟨w_285, List.forall_mem_cons.mpr ⟨w_287, List.forall_mem_cons.mpr ⟨w_289, List.forall_mem_cons.mpr ⟨w_291, fun _ h => absurd h List.not_mem_nil⟩⟩⟩⟩⟩⟩⟩⟩⟩⟩⟩⟩
theorem k_Reader : vC[2]? = some (R_Reader, T_Reader, 12) := rfl
theorem w_323 : (Jvm.Cond.laysFinal "MarkupJudge$Entities" "MarkupJudge$Entities" "store" "LMarkupJudge$Store;") ∈ lwG := s_2 (List.mem_of_getElem? (i := 83) rfl) rfl
theorem w_325 : (Jvm.Cond.laysFinal "MarkupJudge$Entities" "MarkupJudge$Entities" "reader" "LMarkupJudge$Reader;") ∈ lwG := s_2 (List.mem_of_getElem? (i := 85) rfl) rfl
theorem w_327 : (Jvm.Cond.laysFinal "MarkupJudge$Entities" "MarkupJudge$Entities" "from" "[I") ∈ lwG := s_2 (List.mem_of_getElem? (i := 87) rfl) rfl
theorem w_329 : (Jvm.Cond.laysFinal "MarkupJudge$Entities" "MarkupJudge$Entities" "size" "[I") ∈ lwG := s_2 (List.mem_of_getElem? (i := 89) rfl) rfl
theorem w_331 : (Jvm.Cond.laysFinal "MarkupJudge$Entities" "MarkupJudge$Entities" "open" "[Z") ∈ lwG := s_2 (List.mem_of_getElem? (i := 91) rfl) rfl
theorem w_333 : (Jvm.Cond.lays "MarkupJudge$Entities" "MarkupJudge$Entities" "declarations" "I") ∈ lwG := s_2 (List.mem_of_getElem? (i := 93) rfl) rfl
theorem w_335 : (Jvm.Cond.laysFinal "MarkupJudge$Entities" "MarkupJudge$Entities" "general" "[I") ∈ lwG := s_2 (List.mem_of_getElem? (i := 95) rfl) rfl
theorem w_337 : (Jvm.Cond.laysFinal "MarkupJudge$Entities" "MarkupJudge$Entities" "parameter" "[I") ∈ lwG := s_2 (List.mem_of_getElem? (i := 97) rfl) rfl
theorem w_339 : (Jvm.Cond.laysFinal "MarkupJudge$Entities" "MarkupJudge$Entities" "framePos" "[I") ∈ lwG := s_2 (List.mem_of_getElem? (i := 99) rfl) rfl
theorem w_341 : (Jvm.Cond.laysFinal "MarkupJudge$Entities" "MarkupJudge$Entities" "frameStop" "[I") ∈ lwG := s_2 (List.mem_of_getElem? (i := 101) rfl) rfl
theorem w_343 : (Jvm.Cond.laysFinal "MarkupJudge$Entities" "MarkupJudge$Entities" "frameEntity" "[I") ∈ lwG := s_2 (List.mem_of_getElem? (i := 103) rfl) rfl
theorem w_345 : (Jvm.Cond.laysFinal "MarkupJudge$Entities" "MarkupJudge$Entities" "frameElement" "[I") ∈ lwG := s_2 (List.mem_of_getElem? (i := 105) rfl) rfl
theorem w_347 : (Jvm.Cond.lays "MarkupJudge$Entities" "MarkupJudge$Entities" "depth" "I") ∈ lwG := s_2 (List.mem_of_getElem? (i := 107) rfl) rfl
theorem w_349 : (Jvm.Cond.lays "MarkupJudge$Entities" "MarkupJudge$Entities" "counted" "I") ∈ lwG := s_2 (List.mem_of_getElem? (i := 109) rfl) rfl
theorem w_351 : (Jvm.Cond.lays "MarkupJudge$Entities" "MarkupJudge$Entities" "missing" "I") ∈ lwG := s_2 (List.mem_of_getElem? (i := 111) rfl) rfl
theorem w_353 : (Jvm.Cond.lays "MarkupJudge$Entities" "MarkupJudge$Entities" "standalone" "Z") ∈ lwG := s_2 (List.mem_of_getElem? (i := 113) rfl) rfl
theorem w_355 : (Jvm.Cond.lays "MarkupJudge$Entities" "MarkupJudge$Entities" "parameterSeen" "Z") ∈ lwG := s_2 (List.mem_of_getElem? (i := 115) rfl) rfl
set_option maxRecDepth 100000 in
theorem i_Entities : ∀ w ∈ u_ws R_Entities T_Entities 17, w ∈ lwG := List.forall_mem_cons.mpr ⟨w_323, List.forall_mem_cons.mpr ⟨w_325, List.forall_mem_cons.mpr ⟨w_327, List.forall_mem_cons.mpr ⟨w_329, List.forall_mem_cons.mpr ⟨w_331, List.forall_mem_cons.mpr ⟨w_333, List.forall_mem_cons.mpr ⟨w_335, List.forall_mem_cons.mpr ⟨w_337, List.forall_mem_cons.mpr ⟨w_339, List.forall_mem_cons.mpr ⟨w_341, List.forall_mem_cons.mpr ⟨w_343, List.forall_mem_cons.mpr ⟨w_345, List.forall_mem_cons.mpr ⟨w_347, List.forall_mem_cons.mpr ⟨w_349, List.forall_mem_cons.mpr ⟨w_351, List.forall_mem_cons.mpr ⟨w_353, List.forall_mem_cons.mpr ⟨w_355, fun _ h => absurd h List.not_mem_nil⟩⟩⟩⟩⟩⟩⟩⟩⟩⟩⟩⟩⟩⟩⟩⟩⟩
theorem k_Entities : vC[3]? = some (R_Entities, T_Entities, 17) := rfl
theorem w_409 : (Jvm.Cond.laysFinal "MarkupJudge$Declared" "MarkupJudge$Declared" "element" "[I") ∈ lwG := s_2 (List.mem_of_getElem? (i := 169) rfl) rfl
theorem w_411 : (Jvm.Cond.laysFinal "MarkupJudge$Declared" "MarkupJudge$Declared" "kind" "[I") ∈ lwG := s_2 (List.mem_of_getElem? (i := 171) rfl) rfl
theorem w_413 : (Jvm.Cond.laysFinal "MarkupJudge$Declared" "MarkupJudge$Declared" "source" "[I") ∈ lwG := s_2 (List.mem_of_getElem? (i := 173) rfl) rfl
theorem w_415 : (Jvm.Cond.lays "MarkupJudge$Declared" "MarkupJudge$Declared" "elementCount" "I") ∈ lwG := s_2 (List.mem_of_getElem? (i := 175) rfl) rfl
theorem w_417 : (Jvm.Cond.laysFinal "MarkupJudge$Declared" "MarkupJudge$Declared" "elementOf" "[I") ∈ lwG := s_2 (List.mem_of_getElem? (i := 177) rfl) rfl
theorem w_419 : (Jvm.Cond.laysFinal "MarkupJudge$Declared" "MarkupJudge$Declared" "label" "[I") ∈ lwG := s_2 (List.mem_of_getElem? (i := 179) rfl) rfl
theorem w_421 : (Jvm.Cond.laysFinal "MarkupJudge$Declared" "MarkupJudge$Declared" "type" "[I") ∈ lwG := s_2 (List.mem_of_getElem? (i := 181) rfl) rfl
theorem w_423 : (Jvm.Cond.laysFinal "MarkupJudge$Declared" "MarkupJudge$Declared" "how" "[I") ∈ lwG := s_2 (List.mem_of_getElem? (i := 183) rfl) rfl
theorem w_425 : (Jvm.Cond.laysFinal "MarkupJudge$Declared" "MarkupJudge$Declared" "value" "[I") ∈ lwG := s_2 (List.mem_of_getElem? (i := 185) rfl) rfl
theorem w_427 : (Jvm.Cond.laysFinal "MarkupJudge$Declared" "MarkupJudge$Declared" "list" "[I") ∈ lwG := s_2 (List.mem_of_getElem? (i := 187) rfl) rfl
theorem w_429 : (Jvm.Cond.laysFinal "MarkupJudge$Declared" "MarkupJudge$Declared" "listSize" "[I") ∈ lwG := s_2 (List.mem_of_getElem? (i := 189) rfl) rfl
theorem w_431 : (Jvm.Cond.laysFinal "MarkupJudge$Declared" "MarkupJudge$Declared" "next" "[I") ∈ lwG := s_2 (List.mem_of_getElem? (i := 191) rfl) rfl
theorem w_433 : (Jvm.Cond.lays "MarkupJudge$Declared" "MarkupJudge$Declared" "attributeCount" "I") ∈ lwG := s_2 (List.mem_of_getElem? (i := 193) rfl) rfl
theorem w_435 : (Jvm.Cond.laysFinal "MarkupJudge$Declared" "MarkupJudge$Declared" "firstOf" "[I") ∈ lwG := s_2 (List.mem_of_getElem? (i := 195) rfl) rfl
theorem w_437 : (Jvm.Cond.lays "MarkupJudge$Declared" "MarkupJudge$Declared" "last" "I") ∈ lwG := s_2 (List.mem_of_getElem? (i := 197) rfl) rfl
theorem w_439 : (Jvm.Cond.laysFinal "MarkupJudge$Declared" "MarkupJudge$Declared" "listed" "[I") ∈ lwG := s_2 (List.mem_of_getElem? (i := 199) rfl) rfl
theorem w_441 : (Jvm.Cond.lays "MarkupJudge$Declared" "MarkupJudge$Declared" "listedCount" "I") ∈ lwG := s_2 (List.mem_of_getElem? (i := 201) rfl) rfl
theorem w_443 : (Jvm.Cond.laysFinal "MarkupJudge$Declared" "MarkupJudge$Declared" "notation" "[I") ∈ lwG := s_2 (List.mem_of_getElem? (i := 203) rfl) rfl
theorem w_445 : (Jvm.Cond.lays "MarkupJudge$Declared" "MarkupJudge$Declared" "notationsAgain" "I") ∈ lwG := s_2 (List.mem_of_getElem? (i := 205) rfl) rfl
set_option maxRecDepth 100000 in
theorem i_Declared : ∀ w ∈ u_ws R_Declared T_Declared 19, w ∈ lwG := List.forall_mem_cons.mpr ⟨w_409, List.forall_mem_cons.mpr ⟨w_411, List.forall_mem_cons.mpr ⟨w_413, List.forall_mem_cons.mpr ⟨w_415, List.forall_mem_cons.mpr ⟨w_417, List.forall_mem_cons.mpr ⟨w_419, List.forall_mem_cons.mpr ⟨w_421, List.forall_mem_cons.mpr ⟨w_423, List.forall_mem_cons.mpr ⟨w_425, List.forall_mem_cons.mpr ⟨w_427, List.forall_mem_cons.mpr ⟨w_429, List.forall_mem_cons.mpr ⟨w_431, List.forall_mem_cons.mpr ⟨w_433, List.forall_mem_cons.mpr ⟨w_435, List.forall_mem_cons.mpr ⟨w_437, List.forall_mem_cons.mpr ⟨w_439, List.forall_mem_cons.mpr ⟨w_441, List.forall_mem_cons.mpr ⟨w_443, List.forall_mem_cons.mpr ⟨w_445, fun _ h => absurd h List.not_mem_nil⟩⟩⟩⟩⟩⟩⟩⟩⟩⟩⟩⟩⟩⟩⟩⟩⟩⟩⟩
theorem k_Declared : vC[4]? = some (R_Declared, T_Declared, 19) := rfl
theorem w_470 : (Jvm.Cond.laysFinal "MarkupJudge$Doctype" "MarkupJudge$Doctype" "store" "LMarkupJudge$Store;") ∈ lwG := s_2 (List.mem_of_getElem? (i := 230) rfl) rfl
theorem w_472 : (Jvm.Cond.laysFinal "MarkupJudge$Doctype" "MarkupJudge$Doctype" "reader" "LMarkupJudge$Reader;") ∈ lwG := s_2 (List.mem_of_getElem? (i := 232) rfl) rfl
theorem w_474 : (Jvm.Cond.laysFinal "MarkupJudge$Doctype" "MarkupJudge$Doctype" "entities" "LMarkupJudge$Entities;") ∈ lwG := s_2 (List.mem_of_getElem? (i := 234) rfl) rfl
theorem w_476 : (Jvm.Cond.laysFinal "MarkupJudge$Doctype" "MarkupJudge$Doctype" "declared" "LMarkupJudge$Declared;") ∈ lwG := s_2 (List.mem_of_getElem? (i := 236) rfl) rfl
theorem w_478 : (Jvm.Cond.laysFinal "MarkupJudge$Doctype" "MarkupJudge$Doctype" "separator" "[B") ∈ lwG := s_2 (List.mem_of_getElem? (i := 238) rfl) rfl
theorem w_480 : (Jvm.Cond.lays "MarkupJudge$Doctype" "MarkupJudge$Doctype" "seen" "Z") ∈ lwG := s_3 (List.mem_of_getElem? (i := 0) rfl) rfl
theorem w_482 : (Jvm.Cond.lays "MarkupJudge$Doctype" "MarkupJudge$Doctype" "open" "Z") ∈ lwG := s_3 (List.mem_of_getElem? (i := 2) rfl) rfl
theorem w_484 : (Jvm.Cond.lays "MarkupJudge$Doctype" "MarkupJudge$Doctype" "root" "I") ∈ lwG := s_3 (List.mem_of_getElem? (i := 4) rfl) rfl
theorem w_486 : (Jvm.Cond.lays "MarkupJudge$Doctype" "MarkupJudge$Doctype" "names" "I") ∈ lwG := s_3 (List.mem_of_getElem? (i := 6) rfl) rfl
theorem w_488 : (Jvm.Cond.lays "MarkupJudge$Doctype" "MarkupJudge$Doctype" "deepest" "I") ∈ lwG := s_3 (List.mem_of_getElem? (i := 8) rfl) rfl
set_option maxRecDepth 100000 in
theorem i_Doctype : ∀ w ∈ u_ws R_Doctype T_Doctype 10, w ∈ lwG := List.forall_mem_cons.mpr ⟨w_470, List.forall_mem_cons.mpr ⟨w_472, List.forall_mem_cons.mpr ⟨w_474, List.forall_mem_cons.mpr ⟨w_476, List.forall_mem_cons.mpr ⟨w_478, List.forall_mem_cons.mpr ⟨w_480, List.forall_mem_cons.mpr ⟨w_482, List.forall_mem_cons.mpr ⟨w_484, List.forall_mem_cons.mpr ⟨w_486, List.forall_mem_cons.mpr ⟨w_488, fun _ h => absurd h List.not_mem_nil⟩⟩⟩⟩⟩⟩⟩⟩⟩⟩
theorem k_Doctype : vC[5]? = some (R_Doctype, T_Doctype, 10) := rfl
theorem w_554 : (Jvm.Cond.laysFinal "MarkupJudge$Tree" "MarkupJudge$Tree" "most" "I") ∈ lwG := s_3 (List.mem_of_getElem? (i := 74) rfl) rfl
theorem w_556 : (Jvm.Cond.lays "MarkupJudge$Tree" "MarkupJudge$Tree" "nodes" "I") ∈ lwG := s_3 (List.mem_of_getElem? (i := 76) rfl) rfl
theorem w_558 : (Jvm.Cond.lays "MarkupJudge$Tree" "MarkupJudge$Tree" "elements" "I") ∈ lwG := s_3 (List.mem_of_getElem? (i := 78) rfl) rfl
theorem w_560 : (Jvm.Cond.lays "MarkupJudge$Tree" "MarkupJudge$Tree" "open" "I") ∈ lwG := s_3 (List.mem_of_getElem? (i := 80) rfl) rfl
theorem w_562 : (Jvm.Cond.laysFinal "MarkupJudge$Tree" "MarkupJudge$Tree" "tag" "[I") ∈ lwG := s_3 (List.mem_of_getElem? (i := 82) rfl) rfl
theorem w_564 : (Jvm.Cond.laysFinal "MarkupJudge$Tree" "MarkupJudge$Tree" "above" "[I") ∈ lwG := s_3 (List.mem_of_getElem? (i := 84) rfl) rfl
theorem w_566 : (Jvm.Cond.laysFinal "MarkupJudge$Tree" "MarkupJudge$Tree" "first" "[I") ∈ lwG := s_3 (List.mem_of_getElem? (i := 86) rfl) rfl
theorem w_568 : (Jvm.Cond.laysFinal "MarkupJudge$Tree" "MarkupJudge$Tree" "all" "[I") ∈ lwG := s_3 (List.mem_of_getElem? (i := 88) rfl) rfl
theorem w_570 : (Jvm.Cond.laysFinal "MarkupJudge$Tree" "MarkupJudge$Tree" "given" "[I") ∈ lwG := s_3 (List.mem_of_getElem? (i := 90) rfl) rfl
theorem w_572 : (Jvm.Cond.laysFinal "MarkupJudge$Tree" "MarkupJudge$Tree" "content" "[I") ∈ lwG := s_3 (List.mem_of_getElem? (i := 92) rfl) rfl
theorem w_574 : (Jvm.Cond.lays "MarkupJudge$Tree" "MarkupJudge$Tree" "attributeCount" "I") ∈ lwG := s_3 (List.mem_of_getElem? (i := 94) rfl) rfl
theorem w_576 : (Jvm.Cond.laysFinal "MarkupJudge$Tree" "MarkupJudge$Tree" "label" "[I") ∈ lwG := s_3 (List.mem_of_getElem? (i := 96) rfl) rfl
theorem w_578 : (Jvm.Cond.laysFinal "MarkupJudge$Tree" "MarkupJudge$Tree" "value" "[I") ∈ lwG := s_3 (List.mem_of_getElem? (i := 98) rfl) rfl
theorem w_580 : (Jvm.Cond.laysFinal "MarkupJudge$Tree" "MarkupJudge$Tree" "declaration" "[I") ∈ lwG := s_3 (List.mem_of_getElem? (i := 100) rfl) rfl
theorem w_582 : (Jvm.Cond.laysFinal "MarkupJudge$Tree" "MarkupJudge$Tree" "stream" "[I") ∈ lwG := s_3 (List.mem_of_getElem? (i := 102) rfl) rfl
theorem w_584 : (Jvm.Cond.lays "MarkupJudge$Tree" "MarkupJudge$Tree" "streamSize" "I") ∈ lwG := s_3 (List.mem_of_getElem? (i := 104) rfl) rfl
theorem w_586 : (Jvm.Cond.lays "MarkupJudge$Tree" "MarkupJudge$Tree" "letters" "I") ∈ lwG := s_3 (List.mem_of_getElem? (i := 106) rfl) rfl
set_option maxRecDepth 100000 in
theorem i_Tree : ∀ w ∈ u_ws R_Tree T_Tree 17, w ∈ lwG := List.forall_mem_cons.mpr ⟨w_554, List.forall_mem_cons.mpr ⟨w_556, List.forall_mem_cons.mpr ⟨w_558, List.forall_mem_cons.mpr ⟨w_560, List.forall_mem_cons.mpr ⟨w_562, List.forall_mem_cons.mpr ⟨w_564, List.forall_mem_cons.mpr ⟨w_566, List.forall_mem_cons.mpr ⟨w_568, List.forall_mem_cons.mpr ⟨w_570, List.forall_mem_cons.mpr ⟨w_572, List.forall_mem_cons.mpr ⟨w_574, List.forall_mem_cons.mpr ⟨w_576, List.forall_mem_cons.mpr ⟨w_578, List.forall_mem_cons.mpr ⟨w_580, List.forall_mem_cons.mpr ⟨w_582, List.forall_mem_cons.mpr ⟨w_584, List.forall_mem_cons.mpr ⟨w_586, fun _ h => absurd h List.not_mem_nil⟩⟩⟩⟩⟩⟩⟩⟩⟩⟩⟩⟩⟩⟩⟩⟩⟩
theorem k_Tree : vC[6]? = some (R_Tree, T_Tree, 17) := rfl
theorem w_601 : (Jvm.Cond.laysFinal "MarkupJudge$Content" "MarkupJudge$Content" "store" "LMarkupJudge$Store;") ∈ lwG := s_3 (List.mem_of_getElem? (i := 121) rfl) rfl
theorem w_603 : (Jvm.Cond.laysFinal "MarkupJudge$Content" "MarkupJudge$Content" "reader" "LMarkupJudge$Reader;") ∈ lwG := s_3 (List.mem_of_getElem? (i := 123) rfl) rfl
theorem w_605 : (Jvm.Cond.laysFinal "MarkupJudge$Content" "MarkupJudge$Content" "entities" "LMarkupJudge$Entities;") ∈ lwG := s_3 (List.mem_of_getElem? (i := 125) rfl) rfl
theorem w_607 : (Jvm.Cond.laysFinal "MarkupJudge$Content" "MarkupJudge$Content" "declared" "LMarkupJudge$Declared;") ∈ lwG := s_3 (List.mem_of_getElem? (i := 127) rfl) rfl
theorem w_609 : (Jvm.Cond.laysFinal "MarkupJudge$Content" "MarkupJudge$Content" "doctype" "LMarkupJudge$Doctype;") ∈ lwG := s_3 (List.mem_of_getElem? (i := 129) rfl) rfl
theorem w_611 : (Jvm.Cond.laysFinal "MarkupJudge$Content" "MarkupJudge$Content" "tree" "LMarkupJudge$Tree;") ∈ lwG := s_3 (List.mem_of_getElem? (i := 131) rfl) rfl
set_option maxRecDepth 100000 in
theorem i_Content : ∀ w ∈ u_ws R_Content T_Content 6, w ∈ lwG := List.forall_mem_cons.mpr ⟨w_601, List.forall_mem_cons.mpr ⟨w_603, List.forall_mem_cons.mpr ⟨w_605, List.forall_mem_cons.mpr ⟨w_607, List.forall_mem_cons.mpr ⟨w_609, List.forall_mem_cons.mpr ⟨w_611, fun _ h => absurd h List.not_mem_nil⟩⟩⟩⟩⟩⟩
theorem k_Content : vC[7]? = some (R_Content, T_Content, 6) := rfl
theorem w_681 : (Jvm.Cond.laysFinal "MarkupJudge$Validator" "MarkupJudge$Validator" "store" "LMarkupJudge$Store;") ∈ lwG := s_3 (List.mem_of_getElem? (i := 201) rfl) rfl
theorem w_683 : (Jvm.Cond.laysFinal "MarkupJudge$Validator" "MarkupJudge$Validator" "reader" "LMarkupJudge$Reader;") ∈ lwG := s_3 (List.mem_of_getElem? (i := 203) rfl) rfl
theorem w_685 : (Jvm.Cond.laysFinal "MarkupJudge$Validator" "MarkupJudge$Validator" "entities" "LMarkupJudge$Entities;") ∈ lwG := s_3 (List.mem_of_getElem? (i := 205) rfl) rfl
theorem w_687 : (Jvm.Cond.laysFinal "MarkupJudge$Validator" "MarkupJudge$Validator" "declared" "LMarkupJudge$Declared;") ∈ lwG := s_3 (List.mem_of_getElem? (i := 207) rfl) rfl
theorem w_689 : (Jvm.Cond.laysFinal "MarkupJudge$Validator" "MarkupJudge$Validator" "doctype" "LMarkupJudge$Doctype;") ∈ lwG := s_3 (List.mem_of_getElem? (i := 209) rfl) rfl
theorem w_691 : (Jvm.Cond.laysFinal "MarkupJudge$Validator" "MarkupJudge$Validator" "tree" "LMarkupJudge$Tree;") ∈ lwG := s_3 (List.mem_of_getElem? (i := 211) rfl) rfl
theorem w_693 : (Jvm.Cond.laysFinal "MarkupJudge$Validator" "MarkupJudge$Validator" "model" "LMarkupJudge$Model;") ∈ lwG := s_3 (List.mem_of_getElem? (i := 213) rfl) rfl
theorem w_695 : (Jvm.Cond.laysFinal "MarkupJudge$Validator" "MarkupJudge$Validator" "counts" "[I") ∈ lwG := s_3 (List.mem_of_getElem? (i := 215) rfl) rfl
theorem w_697 : (Jvm.Cond.laysFinal "MarkupJudge$Validator" "MarkupJudge$Validator" "child" "[I") ∈ lwG := s_3 (List.mem_of_getElem? (i := 217) rfl) rfl
theorem w_699 : (Jvm.Cond.laysFinal "MarkupJudge$Validator" "MarkupJudge$Validator" "sibling" "[I") ∈ lwG := s_3 (List.mem_of_getElem? (i := 219) rfl) rfl
theorem w_701 : (Jvm.Cond.laysFinal "MarkupJudge$Validator" "MarkupJudge$Validator" "alike" "[I") ∈ lwG := s_3 (List.mem_of_getElem? (i := 221) rfl) rfl
theorem w_703 : (Jvm.Cond.laysFinal "MarkupJudge$Validator" "MarkupJudge$Validator" "firstAlike" "[I") ∈ lwG := s_3 (List.mem_of_getElem? (i := 223) rfl) rfl
theorem w_705 : (Jvm.Cond.laysFinal "MarkupJudge$Validator" "MarkupJudge$Validator" "applied" "[I") ∈ lwG := s_3 (List.mem_of_getElem? (i := 225) rfl) rfl
theorem w_707 : (Jvm.Cond.lays "MarkupJudge$Validator" "MarkupJudge$Validator" "identityMark" "I") ∈ lwG := s_3 (List.mem_of_getElem? (i := 227) rfl) rfl
set_option maxRecDepth 100000 in
theorem i_Validator : ∀ w ∈ u_ws R_Validator T_Validator 14, w ∈ lwG := List.forall_mem_cons.mpr ⟨w_681, List.forall_mem_cons.mpr ⟨w_683, List.forall_mem_cons.mpr ⟨w_685, List.forall_mem_cons.mpr ⟨w_687, List.forall_mem_cons.mpr ⟨w_689, List.forall_mem_cons.mpr ⟨w_691, List.forall_mem_cons.mpr ⟨w_693, List.forall_mem_cons.mpr ⟨w_695, List.forall_mem_cons.mpr ⟨w_697, List.forall_mem_cons.mpr ⟨w_699, List.forall_mem_cons.mpr ⟨w_701, List.forall_mem_cons.mpr ⟨w_703, List.forall_mem_cons.mpr ⟨w_705, List.forall_mem_cons.mpr ⟨w_707, fun _ h => absurd h List.not_mem_nil⟩⟩⟩⟩⟩⟩⟩⟩⟩⟩⟩⟩⟩⟩
theorem k_Validator : vC[8]? = some (R_Validator, T_Validator, 14) := rfl
theorem w_635 : (Jvm.Cond.laysFinal "MarkupJudge$Model" "MarkupJudge$Model" "store" "LMarkupJudge$Store;") ∈ lwG := s_3 (List.mem_of_getElem? (i := 155) rfl) rfl
theorem w_637 : (Jvm.Cond.laysFinal "MarkupJudge$Model" "MarkupJudge$Model" "reader" "LMarkupJudge$Reader;") ∈ lwG := s_3 (List.mem_of_getElem? (i := 157) rfl) rfl
theorem w_639 : (Jvm.Cond.laysFinal "MarkupJudge$Model" "MarkupJudge$Model" "names" "[I") ∈ lwG := s_3 (List.mem_of_getElem? (i := 159) rfl) rfl
theorem w_641 : (Jvm.Cond.lays "MarkupJudge$Model" "MarkupJudge$Model" "count" "I") ∈ lwG := s_3 (List.mem_of_getElem? (i := 161) rfl) rfl
theorem w_643 : (Jvm.Cond.laysFinal "MarkupJudge$Model" "MarkupJudge$Model" "follow" "[I") ∈ lwG := s_3 (List.mem_of_getElem? (i := 163) rfl) rfl
theorem w_645 : (Jvm.Cond.laysFinal "MarkupJudge$Model" "MarkupJudge$Model" "first" "[I") ∈ lwG := s_3 (List.mem_of_getElem? (i := 165) rfl) rfl
theorem w_647 : (Jvm.Cond.laysFinal "MarkupJudge$Model" "MarkupJudge$Model" "last" "[I") ∈ lwG := s_3 (List.mem_of_getElem? (i := 167) rfl) rfl
theorem w_649 : (Jvm.Cond.laysFinal "MarkupJudge$Model" "MarkupJudge$Model" "skippable" "[Z") ∈ lwG := s_3 (List.mem_of_getElem? (i := 169) rfl) rfl
theorem w_651 : (Jvm.Cond.laysFinal "MarkupJudge$Model" "MarkupJudge$Model" "begun" "[Z") ∈ lwG := s_3 (List.mem_of_getElem? (i := 171) rfl) rfl
theorem w_653 : (Jvm.Cond.laysFinal "MarkupJudge$Model" "MarkupJudge$Model" "separator" "[I") ∈ lwG := s_3 (List.mem_of_getElem? (i := 173) rfl) rfl
theorem w_655 : (Jvm.Cond.laysFinal "MarkupJudge$Model" "MarkupJudge$Model" "may" "[I") ∈ lwG := s_3 (List.mem_of_getElem? (i := 175) rfl) rfl
theorem w_657 : (Jvm.Cond.laysFinal "MarkupJudge$Model" "MarkupJudge$Model" "then" "[I") ∈ lwG := s_3 (List.mem_of_getElem? (i := 177) rfl) rfl
theorem w_659 : (Jvm.Cond.lays "MarkupJudge$Model" "MarkupJudge$Model" "complete" "Z") ∈ lwG := s_3 (List.mem_of_getElem? (i := 179) rfl) rfl
set_option maxRecDepth 100000 in
theorem i_Model : ∀ w ∈ u_ws R_Model T_Model 13, w ∈ lwG := List.forall_mem_cons.mpr ⟨w_635, List.forall_mem_cons.mpr ⟨w_637, List.forall_mem_cons.mpr ⟨w_639, List.forall_mem_cons.mpr ⟨w_641, List.forall_mem_cons.mpr ⟨w_643, List.forall_mem_cons.mpr ⟨w_645, List.forall_mem_cons.mpr ⟨w_647, List.forall_mem_cons.mpr ⟨w_649, List.forall_mem_cons.mpr ⟨w_651, List.forall_mem_cons.mpr ⟨w_653, List.forall_mem_cons.mpr ⟨w_655, List.forall_mem_cons.mpr ⟨w_657, List.forall_mem_cons.mpr ⟨w_659, fun _ h => absurd h List.not_mem_nil⟩⟩⟩⟩⟩⟩⟩⟩⟩⟩⟩⟩⟩
theorem k_Model : vC[9]? = some (R_Model, T_Model, 13) := rfl
theorem w_726 : (Jvm.Cond.laysFinal "MarkupJudge$Meanings" "MarkupJudge$Meanings" "store" "LMarkupJudge$Store;") ∈ lwG := s_4 (List.mem_of_getElem? (i := 6) rfl) rfl
theorem w_728 : (Jvm.Cond.laysFinal "MarkupJudge$Meanings" "MarkupJudge$Meanings" "tree" "LMarkupJudge$Tree;") ∈ lwG := s_4 (List.mem_of_getElem? (i := 8) rfl) rfl
theorem w_730 : (Jvm.Cond.laysFinal "MarkupJudge$Meanings" "MarkupJudge$Meanings" "prefixOf" "[I") ∈ lwG := s_4 (List.mem_of_getElem? (i := 10) rfl) rfl
theorem w_732 : (Jvm.Cond.laysFinal "MarkupJudge$Meanings" "MarkupJudge$Meanings" "localOf" "[I") ∈ lwG := s_4 (List.mem_of_getElem? (i := 12) rfl) rfl
theorem w_734 : (Jvm.Cond.laysFinal "MarkupJudge$Meanings" "MarkupJudge$Meanings" "meant" "[I") ∈ lwG := s_4 (List.mem_of_getElem? (i := 14) rfl) rfl
theorem w_736 : (Jvm.Cond.laysFinal "MarkupJudge$Meanings" "MarkupJudge$Meanings" "outside" "[I") ∈ lwG := s_4 (List.mem_of_getElem? (i := 16) rfl) rfl
theorem w_738 : (Jvm.Cond.laysFinal "MarkupJudge$Meanings" "MarkupJudge$Meanings" "counts" "[I") ∈ lwG := s_4 (List.mem_of_getElem? (i := 18) rfl) rfl
theorem w_740 : (Jvm.Cond.lays "MarkupJudge$Meanings" "MarkupJudge$Meanings" "relative" "Z") ∈ lwG := s_4 (List.mem_of_getElem? (i := 20) rfl) rfl
set_option maxRecDepth 100000 in
theorem i_Meanings : ∀ w ∈ u_ws R_Meanings T_Meanings 8, w ∈ lwG := List.forall_mem_cons.mpr ⟨w_726, List.forall_mem_cons.mpr ⟨w_728, List.forall_mem_cons.mpr ⟨w_730, List.forall_mem_cons.mpr ⟨w_732, List.forall_mem_cons.mpr ⟨w_734, List.forall_mem_cons.mpr ⟨w_736, List.forall_mem_cons.mpr ⟨w_738, List.forall_mem_cons.mpr ⟨w_740, fun _ h => absurd h List.not_mem_nil⟩⟩⟩⟩⟩⟩⟩⟩
theorem k_Meanings : vC[10]? = some (R_Meanings, T_Meanings, 8) := rfl
theorem w_763 : (Jvm.Cond.laysFinal "MarkupJudge$Writer" "MarkupJudge$Writer" "store" "LMarkupJudge$Store;") ∈ lwG := s_4 (List.mem_of_getElem? (i := 43) rfl) rfl
theorem w_765 : (Jvm.Cond.laysFinal "MarkupJudge$Writer" "MarkupJudge$Writer" "tree" "LMarkupJudge$Tree;") ∈ lwG := s_4 (List.mem_of_getElem? (i := 45) rfl) rfl
theorem w_767 : (Jvm.Cond.laysFinal "MarkupJudge$Writer" "MarkupJudge$Writer" "meanings" "LMarkupJudge$Meanings;") ∈ lwG := s_4 (List.mem_of_getElem? (i := 47) rfl) rfl
theorem w_769 : (Jvm.Cond.lays "MarkupJudge$Writer" "MarkupJudge$Writer" "product" "[B") ∈ lwG := s_4 (List.mem_of_getElem? (i := 49) rfl) rfl
theorem w_771 : (Jvm.Cond.lays "MarkupJudge$Writer" "MarkupJudge$Writer" "size" "I") ∈ lwG := s_4 (List.mem_of_getElem? (i := 51) rfl) rfl
theorem w_773 : (Jvm.Cond.lays "MarkupJudge$Writer" "MarkupJudge$Writer" "draft" "[B") ∈ lwG := s_4 (List.mem_of_getElem? (i := 53) rfl) rfl
theorem w_775 : (Jvm.Cond.lays "MarkupJudge$Writer" "MarkupJudge$Writer" "drafted" "I") ∈ lwG := s_4 (List.mem_of_getElem? (i := 55) rfl) rfl
theorem w_777 : (Jvm.Cond.lays "MarkupJudge$Writer" "MarkupJudge$Writer" "full" "Z") ∈ lwG := s_4 (List.mem_of_getElem? (i := 57) rfl) rfl
theorem w_779 : (Jvm.Cond.lays "MarkupJudge$Writer" "MarkupJudge$Writer" "open" "I") ∈ lwG := s_4 (List.mem_of_getElem? (i := 59) rfl) rfl
theorem w_781 : (Jvm.Cond.lays "MarkupJudge$Writer" "MarkupJudge$Writer" "behind" "Z") ∈ lwG := s_4 (List.mem_of_getElem? (i := 61) rfl) rfl
theorem w_783 : (Jvm.Cond.laysFinal "MarkupJudge$Writer" "MarkupJudge$Writer" "order" "[I") ∈ lwG := s_4 (List.mem_of_getElem? (i := 63) rfl) rfl
set_option maxRecDepth 100000 in
theorem i_Writer : ∀ w ∈ u_ws R_Writer T_Writer 11, w ∈ lwG := List.forall_mem_cons.mpr ⟨w_763, List.forall_mem_cons.mpr ⟨w_765, List.forall_mem_cons.mpr ⟨w_767, List.forall_mem_cons.mpr ⟨w_769, List.forall_mem_cons.mpr ⟨w_771, List.forall_mem_cons.mpr ⟨w_773, List.forall_mem_cons.mpr ⟨w_775, List.forall_mem_cons.mpr ⟨w_777, List.forall_mem_cons.mpr ⟨w_779, List.forall_mem_cons.mpr ⟨w_781, List.forall_mem_cons.mpr ⟨w_783, fun _ h => absurd h List.not_mem_nil⟩⟩⟩⟩⟩⟩⟩⟩⟩⟩⟩
theorem k_Writer : vC[11]? = some (R_Writer, T_Writer, 11) := rfl
theorem w_2573 : (Jvm.Cond.laysFinal "MarkupJudgeModel" "MarkupJudgeModel" "room" "I") ∈ lwG := s_11 (List.mem_of_getElem? (i := 173) rfl) rfl
theorem w_2575 : (Jvm.Cond.laysFinal "MarkupJudgeModel" "MarkupJudgeModel" "nodes" "I") ∈ lwG := s_11 (List.mem_of_getElem? (i := 175) rfl) rfl
theorem w_2577 : (Jvm.Cond.laysFinal "MarkupJudgeModel" "MarkupJudgeModel" "bytes" "[B") ∈ lwG := s_11 (List.mem_of_getElem? (i := 177) rfl) rfl
theorem w_2579 : (Jvm.Cond.lays "MarkupJudgeModel" "MarkupJudgeModel" "size" "I") ∈ lwG := s_11 (List.mem_of_getElem? (i := 179) rfl) rfl
theorem w_2581 : (Jvm.Cond.laysFinal "MarkupJudgeModel" "MarkupJudgeModel" "reader" "LMarkupJudgeModel$Reader;") ∈ lwG := s_11 (List.mem_of_getElem? (i := 181) rfl) rfl
theorem w_2583 : (Jvm.Cond.laysFinal "MarkupJudgeModel" "MarkupJudgeModel" "doc" "LMarkupJudgeModel$Doc;") ∈ lwG := s_11 (List.mem_of_getElem? (i := 183) rfl) rfl
theorem w_2585 : (Jvm.Cond.lays "MarkupJudgeModel" "MarkupJudgeModel" "hasDoc" "Z") ∈ lwG := s_11 (List.mem_of_getElem? (i := 185) rfl) rfl
theorem w_2587 : (Jvm.Cond.laysFinal "MarkupJudgeModel" "MarkupJudgeModel" "other" "LMarkupJudgeModel$Doc;") ∈ lwG := s_11 (List.mem_of_getElem? (i := 187) rfl) rfl
theorem w_2589 : (Jvm.Cond.laysFinal "MarkupJudgeModel" "MarkupJudgeModel" "product" "[B") ∈ lwG := s_11 (List.mem_of_getElem? (i := 189) rfl) rfl
theorem w_2591 : (Jvm.Cond.lays "MarkupJudgeModel" "MarkupJudgeModel" "produced" "I") ∈ lwG := s_11 (List.mem_of_getElem? (i := 191) rfl) rfl
theorem w_2593 : (Jvm.Cond.laysFinal "MarkupJudgeModel" "MarkupJudgeModel" "writer" "LMarkupJudgeModel$Writer;") ∈ lwG := s_11 (List.mem_of_getElem? (i := 193) rfl) rfl
theorem w_2595 : (Jvm.Cond.lays "MarkupJudgeModel" "MarkupJudgeModel" "code" "I") ∈ lwG := s_11 (List.mem_of_getElem? (i := 195) rfl) rfl
theorem w_2597 : (Jvm.Cond.lays "MarkupJudgeModel" "MarkupJudgeModel" "fault" "I") ∈ lwG := s_11 (List.mem_of_getElem? (i := 197) rfl) rfl
theorem w_2599 : (Jvm.Cond.lays "MarkupJudgeModel" "MarkupJudgeModel" "place" "I") ∈ lwG := s_11 (List.mem_of_getElem? (i := 199) rfl) rfl
set_option maxRecDepth 100000 in
theorem i_K : ∀ w ∈ u_ws R_K T_K 14, w ∈ lwG := List.forall_mem_cons.mpr ⟨w_2573, List.forall_mem_cons.mpr ⟨w_2575, List.forall_mem_cons.mpr ⟨w_2577, List.forall_mem_cons.mpr ⟨w_2579, List.forall_mem_cons.mpr ⟨w_2581, List.forall_mem_cons.mpr ⟨w_2583, List.forall_mem_cons.mpr ⟨w_2585, List.forall_mem_cons.mpr ⟨w_2587, List.forall_mem_cons.mpr ⟨w_2589, List.forall_mem_cons.mpr ⟨w_2591, List.forall_mem_cons.mpr ⟨w_2593, List.forall_mem_cons.mpr ⟨w_2595, List.forall_mem_cons.mpr ⟨w_2597, List.forall_mem_cons.mpr ⟨w_2599, fun _ h => absurd h List.not_mem_nil⟩⟩⟩⟩⟩⟩⟩⟩⟩⟩⟩⟩⟩⟩
theorem k_K : vC[12]? = some (R_K, T_K, 14) := rfl
theorem w_2371 : (Jvm.Cond.laysFinal "MarkupJudgeModel$Book" "MarkupJudgeModel$Book" "pool" "[I") ∈ lwG := s_10 (List.mem_of_getElem? (i := 211) rfl) rfl
theorem w_2373 : (Jvm.Cond.lays "MarkupJudgeModel$Book" "MarkupJudgeModel$Book" "used" "I") ∈ lwG := s_10 (List.mem_of_getElem? (i := 213) rfl) rfl
theorem w_2375 : (Jvm.Cond.laysFinal "MarkupJudgeModel$Book" "MarkupJudgeModel$Book" "starts" "[I") ∈ lwG := s_10 (List.mem_of_getElem? (i := 215) rfl) rfl
theorem w_2377 : (Jvm.Cond.laysFinal "MarkupJudgeModel$Book" "MarkupJudgeModel$Book" "lengths" "[I") ∈ lwG := s_10 (List.mem_of_getElem? (i := 217) rfl) rfl
theorem w_2379 : (Jvm.Cond.laysFinal "MarkupJudgeModel$Book" "MarkupJudgeModel$Book" "nexts" "[I") ∈ lwG := s_10 (List.mem_of_getElem? (i := 219) rfl) rfl
theorem w_2381 : (Jvm.Cond.laysFinal "MarkupJudgeModel$Book" "MarkupJudgeModel$Book" "buckets" "[I") ∈ lwG := s_10 (List.mem_of_getElem? (i := 221) rfl) rfl
theorem w_2383 : (Jvm.Cond.lays "MarkupJudgeModel$Book" "MarkupJudgeModel$Book" "count" "I") ∈ lwG := s_10 (List.mem_of_getElem? (i := 223) rfl) rfl
set_option maxRecDepth 100000 in
theorem i_KBook : ∀ w ∈ u_ws R_KBook T_KBook 7, w ∈ lwG := List.forall_mem_cons.mpr ⟨w_2371, List.forall_mem_cons.mpr ⟨w_2373, List.forall_mem_cons.mpr ⟨w_2375, List.forall_mem_cons.mpr ⟨w_2377, List.forall_mem_cons.mpr ⟨w_2379, List.forall_mem_cons.mpr ⟨w_2381, List.forall_mem_cons.mpr ⟨w_2383, fun _ h => absurd h List.not_mem_nil⟩⟩⟩⟩⟩⟩⟩
theorem k_KBook : vC[13]? = some (R_KBook, T_KBook, 7) := rfl
theorem w_2464 : (Jvm.Cond.laysFinal "MarkupJudgeModel$Doc" "MarkupJudgeModel$Doc" "book" "LMarkupJudgeModel$Book;") ∈ lwG := s_11 (List.mem_of_getElem? (i := 64) rfl) rfl
theorem w_2466 : (Jvm.Cond.laysFinal "MarkupJudgeModel$Doc" "MarkupJudgeModel$Doc" "pool" "[I") ∈ lwG := s_11 (List.mem_of_getElem? (i := 66) rfl) rfl
theorem w_2468 : (Jvm.Cond.lays "MarkupJudgeModel$Doc" "MarkupJudgeModel$Doc" "used" "I") ∈ lwG := s_11 (List.mem_of_getElem? (i := 68) rfl) rfl
theorem w_2470 : (Jvm.Cond.laysFinal "MarkupJudgeModel$Doc" "MarkupJudgeModel$Doc" "names" "[I") ∈ lwG := s_11 (List.mem_of_getElem? (i := 70) rfl) rfl
theorem w_2472 : (Jvm.Cond.laysFinal "MarkupJudgeModel$Doc" "MarkupJudgeModel$Doc" "parents" "[I") ∈ lwG := s_11 (List.mem_of_getElem? (i := 72) rfl) rfl
theorem w_2474 : (Jvm.Cond.laysFinal "MarkupJudgeModel$Doc" "MarkupJudgeModel$Doc" "firsts" "[I") ∈ lwG := s_11 (List.mem_of_getElem? (i := 74) rfl) rfl
theorem w_2476 : (Jvm.Cond.laysFinal "MarkupJudgeModel$Doc" "MarkupJudgeModel$Doc" "counts" "[I") ∈ lwG := s_11 (List.mem_of_getElem? (i := 76) rfl) rfl
theorem w_2478 : (Jvm.Cond.lays "MarkupJudgeModel$Doc" "MarkupJudgeModel$Doc" "elements" "I") ∈ lwG := s_11 (List.mem_of_getElem? (i := 78) rfl) rfl
theorem w_2480 : (Jvm.Cond.laysFinal "MarkupJudgeModel$Doc" "MarkupJudgeModel$Doc" "attributeNames" "[I") ∈ lwG := s_11 (List.mem_of_getElem? (i := 80) rfl) rfl
theorem w_2482 : (Jvm.Cond.laysFinal "MarkupJudgeModel$Doc" "MarkupJudgeModel$Doc" "valueStarts" "[I") ∈ lwG := s_11 (List.mem_of_getElem? (i := 82) rfl) rfl
theorem w_2484 : (Jvm.Cond.laysFinal "MarkupJudgeModel$Doc" "MarkupJudgeModel$Doc" "valueLengths" "[I") ∈ lwG := s_11 (List.mem_of_getElem? (i := 84) rfl) rfl
theorem w_2486 : (Jvm.Cond.laysFinal "MarkupJudgeModel$Doc" "MarkupJudgeModel$Doc" "types" "[B") ∈ lwG := s_11 (List.mem_of_getElem? (i := 86) rfl) rfl
theorem w_2488 : (Jvm.Cond.laysFinal "MarkupJudgeModel$Doc" "MarkupJudgeModel$Doc" "prefixes" "[I") ∈ lwG := s_11 (List.mem_of_getElem? (i := 88) rfl) rfl
theorem w_2490 : (Jvm.Cond.laysFinal "MarkupJudgeModel$Doc" "MarkupJudgeModel$Doc" "locals" "[I") ∈ lwG := s_11 (List.mem_of_getElem? (i := 90) rfl) rfl
theorem w_2492 : (Jvm.Cond.lays "MarkupJudgeModel$Doc" "MarkupJudgeModel$Doc" "attributes" "I") ∈ lwG := s_11 (List.mem_of_getElem? (i := 92) rfl) rfl
theorem w_2494 : (Jvm.Cond.laysFinal "MarkupJudgeModel$Doc" "MarkupJudgeModel$Doc" "events" "[I") ∈ lwG := s_11 (List.mem_of_getElem? (i := 94) rfl) rfl
theorem w_2496 : (Jvm.Cond.lays "MarkupJudgeModel$Doc" "MarkupJudgeModel$Doc" "eventCount" "I") ∈ lwG := s_11 (List.mem_of_getElem? (i := 96) rfl) rfl
theorem w_2498 : (Jvm.Cond.lays "MarkupJudgeModel$Doc" "MarkupJudgeModel$Doc" "lastText" "I") ∈ lwG := s_11 (List.mem_of_getElem? (i := 98) rfl) rfl
theorem w_2500 : (Jvm.Cond.laysFinal "MarkupJudgeModel$Doc" "MarkupJudgeModel$Doc" "violations" "[I") ∈ lwG := s_11 (List.mem_of_getElem? (i := 100) rfl) rfl
theorem w_2502 : (Jvm.Cond.laysFinal "MarkupJudgeModel$Doc" "MarkupJudgeModel$Doc" "spaces" "[I") ∈ lwG := s_11 (List.mem_of_getElem? (i := 102) rfl) rfl
theorem w_2504 : (Jvm.Cond.lays "MarkupJudgeModel$Doc" "MarkupJudgeModel$Doc" "characters" "I") ∈ lwG := s_11 (List.mem_of_getElem? (i := 104) rfl) rfl
theorem w_2506 : (Jvm.Cond.lays "MarkupJudgeModel$Doc" "MarkupJudgeModel$Doc" "counted" "I") ∈ lwG := s_11 (List.mem_of_getElem? (i := 106) rfl) rfl
theorem w_2508 : (Jvm.Cond.laysFinal "MarkupJudgeModel$Doc" "MarkupJudgeModel$Doc" "borrows" "Z") ∈ lwG := s_11 (List.mem_of_getElem? (i := 108) rfl) rfl
set_option maxRecDepth 100000 in
theorem i_KDoc : ∀ w ∈ u_ws R_KDoc T_KDoc 23, w ∈ lwG := List.forall_mem_cons.mpr ⟨w_2464, List.forall_mem_cons.mpr ⟨w_2466, List.forall_mem_cons.mpr ⟨w_2468, List.forall_mem_cons.mpr ⟨w_2470, List.forall_mem_cons.mpr ⟨w_2472, List.forall_mem_cons.mpr ⟨w_2474, List.forall_mem_cons.mpr ⟨w_2476, List.forall_mem_cons.mpr ⟨w_2478, List.forall_mem_cons.mpr ⟨w_2480, List.forall_mem_cons.mpr ⟨w_2482, List.forall_mem_cons.mpr ⟨w_2484, List.forall_mem_cons.mpr ⟨w_2486, List.forall_mem_cons.mpr ⟨w_2488, List.forall_mem_cons.mpr ⟨w_2490, List.forall_mem_cons.mpr ⟨w_2492, List.forall_mem_cons.mpr ⟨w_2494, List.forall_mem_cons.mpr ⟨w_2496, List.forall_mem_cons.mpr ⟨w_2498, List.forall_mem_cons.mpr ⟨w_2500, List.forall_mem_cons.mpr ⟨w_2502, List.forall_mem_cons.mpr ⟨w_2504, List.forall_mem_cons.mpr ⟨w_2506, List.forall_mem_cons.mpr ⟨w_2508, fun _ h => absurd h List.not_mem_nil⟩⟩⟩⟩⟩⟩⟩⟩⟩⟩⟩⟩⟩⟩⟩⟩⟩⟩⟩⟩⟩⟩⟩
theorem k_KDoc : vC[14]? = some (R_KDoc, T_KDoc, 23) := rfl
theorem w_2182 : (Jvm.Cond.lays "MarkupJudgeModel$Reader" "MarkupJudgeModel$Reader" "room" "I") ∈ lwG := s_10 (List.mem_of_getElem? (i := 22) rfl) rfl
theorem w_2184 : (Jvm.Cond.lays "MarkupJudgeModel$Reader" "MarkupJudgeModel$Reader" "nodes" "I") ∈ lwG := s_10 (List.mem_of_getElem? (i := 24) rfl) rfl
theorem w_2186 : (Jvm.Cond.lays "MarkupJudgeModel$Reader" "MarkupJudgeModel$Reader" "doc" "LMarkupJudgeModel$Doc;") ∈ lwG := s_10 (List.mem_of_getElem? (i := 26) rfl) rfl
theorem w_2188 : (Jvm.Cond.lays "MarkupJudgeModel$Reader" "MarkupJudgeModel$Reader" "fault" "I") ∈ lwG := s_10 (List.mem_of_getElem? (i := 28) rfl) rfl
theorem w_2190 : (Jvm.Cond.lays "MarkupJudgeModel$Reader" "MarkupJudgeModel$Reader" "place" "I") ∈ lwG := s_10 (List.mem_of_getElem? (i := 30) rfl) rfl
theorem w_2192 : (Jvm.Cond.laysFinal "MarkupJudgeModel$Reader" "MarkupJudgeModel$Reader" "chars" "[I") ∈ lwG := s_10 (List.mem_of_getElem? (i := 32) rfl) rfl
theorem w_2194 : (Jvm.Cond.lays "MarkupJudgeModel$Reader" "MarkupJudgeModel$Reader" "charCount" "I") ∈ lwG := s_10 (List.mem_of_getElem? (i := 34) rfl) rfl
theorem w_2196 : (Jvm.Cond.lays "MarkupJudgeModel$Reader" "MarkupJudgeModel$Reader" "textLength" "I") ∈ lwG := s_10 (List.mem_of_getElem? (i := 36) rfl) rfl
theorem w_2198 : (Jvm.Cond.lays "MarkupJudgeModel$Reader" "MarkupJudgeModel$Reader" "wide" "Z") ∈ lwG := s_10 (List.mem_of_getElem? (i := 38) rfl) rfl
theorem w_2200 : (Jvm.Cond.laysFinal "MarkupJudgeModel$Reader" "MarkupJudgeModel$Reader" "froms" "[I") ∈ lwG := s_10 (List.mem_of_getElem? (i := 40) rfl) rfl
theorem w_2202 : (Jvm.Cond.laysFinal "MarkupJudgeModel$Reader" "MarkupJudgeModel$Reader" "ends" "[I") ∈ lwG := s_10 (List.mem_of_getElem? (i := 42) rfl) rfl
theorem w_2204 : (Jvm.Cond.laysFinal "MarkupJudgeModel$Reader" "MarkupJudgeModel$Reader" "owners" "[I") ∈ lwG := s_10 (List.mem_of_getElem? (i := 44) rfl) rfl
theorem w_2206 : (Jvm.Cond.laysFinal "MarkupJudgeModel$Reader" "MarkupJudgeModel$Reader" "opened" "[I") ∈ lwG := s_10 (List.mem_of_getElem? (i := 46) rfl) rfl
theorem w_2208 : (Jvm.Cond.laysFinal "MarkupJudgeModel$Reader" "MarkupJudgeModel$Reader" "serials" "[I") ∈ lwG := s_10 (List.mem_of_getElem? (i := 48) rfl) rfl
theorem w_2210 : (Jvm.Cond.lays "MarkupJudgeModel$Reader" "MarkupJudgeModel$Reader" "depth" "I") ∈ lwG := s_10 (List.mem_of_getElem? (i := 50) rfl) rfl
theorem w_2212 : (Jvm.Cond.lays "MarkupJudgeModel$Reader" "MarkupJudgeModel$Reader" "serial" "I") ∈ lwG := s_10 (List.mem_of_getElem? (i := 52) rfl) rfl
theorem w_2214 : (Jvm.Cond.lays "MarkupJudgeModel$Reader" "MarkupJudgeModel$Reader" "at" "I") ∈ lwG := s_10 (List.mem_of_getElem? (i := 54) rfl) rfl
theorem w_2216 : (Jvm.Cond.lays "MarkupJudgeModel$Reader" "MarkupJudgeModel$Reader" "end" "I") ∈ lwG := s_10 (List.mem_of_getElem? (i := 56) rfl) rfl
theorem w_2218 : (Jvm.Cond.lays "MarkupJudgeModel$Reader" "MarkupJudgeModel$Reader" "basePlace" "I") ∈ lwG := s_10 (List.mem_of_getElem? (i := 58) rfl) rfl
theorem w_2220 : (Jvm.Cond.lays "MarkupJudgeModel$Reader" "MarkupJudgeModel$Reader" "phase" "I") ∈ lwG := s_10 (List.mem_of_getElem? (i := 60) rfl) rfl
theorem w_2222 : (Jvm.Cond.lays "MarkupJudgeModel$Reader" "MarkupJudgeModel$Reader" "declared" "Z") ∈ lwG := s_10 (List.mem_of_getElem? (i := 62) rfl) rfl
theorem w_2224 : (Jvm.Cond.lays "MarkupJudgeModel$Reader" "MarkupJudgeModel$Reader" "headSaysYes" "Z") ∈ lwG := s_10 (List.mem_of_getElem? (i := 64) rfl) rfl
theorem w_2226 : (Jvm.Cond.lays "MarkupJudgeModel$Reader" "MarkupJudgeModel$Reader" "wentThroughParameter" "Z") ∈ lwG := s_10 (List.mem_of_getElem? (i := 66) rfl) rfl
theorem w_2228 : (Jvm.Cond.lays "MarkupJudgeModel$Reader" "MarkupJudgeModel$Reader" "hadRoot" "Z") ∈ lwG := s_10 (List.mem_of_getElem? (i := 68) rfl) rfl
theorem w_2230 : (Jvm.Cond.lays "MarkupJudgeModel$Reader" "MarkupJudgeModel$Reader" "rootDeclared" "I") ∈ lwG := s_10 (List.mem_of_getElem? (i := 70) rfl) rfl
theorem w_2232 : (Jvm.Cond.lays "MarkupJudgeModel$Reader" "MarkupJudgeModel$Reader" "counted" "I") ∈ lwG := s_10 (List.mem_of_getElem? (i := 72) rfl) rfl
theorem w_2234 : (Jvm.Cond.lays "MarkupJudgeModel$Reader" "MarkupJudgeModel$Reader" "nodeCount" "I") ∈ lwG := s_10 (List.mem_of_getElem? (i := 74) rfl) rfl
theorem w_2236 : (Jvm.Cond.laysFinal "MarkupJudgeModel$Reader" "MarkupJudgeModel$Reader" "entityNames" "[I") ∈ lwG := s_10 (List.mem_of_getElem? (i := 76) rfl) rfl
theorem w_2238 : (Jvm.Cond.laysFinal "MarkupJudgeModel$Reader" "MarkupJudgeModel$Reader" "entityParameters" "[Z") ∈ lwG := s_10 (List.mem_of_getElem? (i := 78) rfl) rfl
theorem w_2240 : (Jvm.Cond.laysFinal "MarkupJudgeModel$Reader" "MarkupJudgeModel$Reader" "entityStarts" "[I") ∈ lwG := s_10 (List.mem_of_getElem? (i := 80) rfl) rfl
theorem w_2242 : (Jvm.Cond.laysFinal "MarkupJudgeModel$Reader" "MarkupJudgeModel$Reader" "entityLengths" "[I") ∈ lwG := s_10 (List.mem_of_getElem? (i := 82) rfl) rfl
theorem w_2244 : (Jvm.Cond.laysFinal "MarkupJudgeModel$Reader" "MarkupJudgeModel$Reader" "entityBusy" "[Z") ∈ lwG := s_10 (List.mem_of_getElem? (i := 84) rfl) rfl
theorem w_2246 : (Jvm.Cond.lays "MarkupJudgeModel$Reader" "MarkupJudgeModel$Reader" "entities" "I") ∈ lwG := s_10 (List.mem_of_getElem? (i := 86) rfl) rfl
theorem w_2248 : (Jvm.Cond.laysFinal "MarkupJudgeModel$Reader" "MarkupJudgeModel$Reader" "notations" "[I") ∈ lwG := s_10 (List.mem_of_getElem? (i := 88) rfl) rfl
theorem w_2250 : (Jvm.Cond.lays "MarkupJudgeModel$Reader" "MarkupJudgeModel$Reader" "notationCount" "I") ∈ lwG := s_10 (List.mem_of_getElem? (i := 90) rfl) rfl
theorem w_2252 : (Jvm.Cond.laysFinal "MarkupJudgeModel$Reader" "MarkupJudgeModel$Reader" "identified" "[Z") ∈ lwG := s_10 (List.mem_of_getElem? (i := 92) rfl) rfl
theorem w_2254 : (Jvm.Cond.laysFinal "MarkupJudgeModel$Reader" "MarkupJudgeModel$Reader" "contentNames" "[I") ∈ lwG := s_10 (List.mem_of_getElem? (i := 94) rfl) rfl
theorem w_2256 : (Jvm.Cond.laysFinal "MarkupJudgeModel$Reader" "MarkupJudgeModel$Reader" "kinds" "[B") ∈ lwG := s_10 (List.mem_of_getElem? (i := 96) rfl) rfl
theorem w_2258 : (Jvm.Cond.laysFinal "MarkupJudgeModel$Reader" "MarkupJudgeModel$Reader" "models" "[I") ∈ lwG := s_10 (List.mem_of_getElem? (i := 98) rfl) rfl
theorem w_2260 : (Jvm.Cond.laysFinal "MarkupJudgeModel$Reader" "MarkupJudgeModel$Reader" "modelCounts" "[I") ∈ lwG := s_10 (List.mem_of_getElem? (i := 100) rfl) rfl
theorem w_2262 : (Jvm.Cond.lays "MarkupJudgeModel$Reader" "MarkupJudgeModel$Reader" "declarations" "I") ∈ lwG := s_10 (List.mem_of_getElem? (i := 102) rfl) rfl
theorem w_2264 : (Jvm.Cond.laysFinal "MarkupJudgeModel$Reader" "MarkupJudgeModel$Reader" "nodeKinds" "[B") ∈ lwG := s_10 (List.mem_of_getElem? (i := 104) rfl) rfl
theorem w_2266 : (Jvm.Cond.laysFinal "MarkupJudgeModel$Reader" "MarkupJudgeModel$Reader" "often" "[B") ∈ lwG := s_10 (List.mem_of_getElem? (i := 106) rfl) rfl
theorem w_2268 : (Jvm.Cond.laysFinal "MarkupJudgeModel$Reader" "MarkupJudgeModel$Reader" "nodeNames" "[I") ∈ lwG := s_10 (List.mem_of_getElem? (i := 108) rfl) rfl
theorem w_2270 : (Jvm.Cond.laysFinal "MarkupJudgeModel$Reader" "MarkupJudgeModel$Reader" "children" "[I") ∈ lwG := s_10 (List.mem_of_getElem? (i := 110) rfl) rfl
theorem w_2272 : (Jvm.Cond.laysFinal "MarkupJudgeModel$Reader" "MarkupJudgeModel$Reader" "siblings" "[I") ∈ lwG := s_10 (List.mem_of_getElem? (i := 112) rfl) rfl
theorem w_2274 : (Jvm.Cond.laysFinal "MarkupJudgeModel$Reader" "MarkupJudgeModel$Reader" "above" "[I") ∈ lwG := s_10 (List.mem_of_getElem? (i := 114) rfl) rfl
theorem w_2276 : (Jvm.Cond.lays "MarkupJudgeModel$Reader" "MarkupJudgeModel$Reader" "modelNodes" "I") ∈ lwG := s_10 (List.mem_of_getElem? (i := 116) rfl) rfl
theorem w_2278 : (Jvm.Cond.laysFinal "MarkupJudgeModel$Reader" "MarkupJudgeModel$Reader" "ofElement" "[I") ∈ lwG := s_10 (List.mem_of_getElem? (i := 118) rfl) rfl
theorem w_2280 : (Jvm.Cond.laysFinal "MarkupJudgeModel$Reader" "MarkupJudgeModel$Reader" "ofName" "[I") ∈ lwG := s_10 (List.mem_of_getElem? (i := 120) rfl) rfl
theorem w_2282 : (Jvm.Cond.laysFinal "MarkupJudgeModel$Reader" "MarkupJudgeModel$Reader" "ofType" "[B") ∈ lwG := s_10 (List.mem_of_getElem? (i := 122) rfl) rfl
theorem w_2284 : (Jvm.Cond.laysFinal "MarkupJudgeModel$Reader" "MarkupJudgeModel$Reader" "ofDefault" "[B") ∈ lwG := s_10 (List.mem_of_getElem? (i := 124) rfl) rfl
theorem w_2286 : (Jvm.Cond.laysFinal "MarkupJudgeModel$Reader" "MarkupJudgeModel$Reader" "givenStarts" "[I") ∈ lwG := s_10 (List.mem_of_getElem? (i := 126) rfl) rfl
theorem w_2288 : (Jvm.Cond.laysFinal "MarkupJudgeModel$Reader" "MarkupJudgeModel$Reader" "givenLengths" "[I") ∈ lwG := s_10 (List.mem_of_getElem? (i := 128) rfl) rfl
theorem w_2290 : (Jvm.Cond.laysFinal "MarkupJudgeModel$Reader" "MarkupJudgeModel$Reader" "listStarts" "[I") ∈ lwG := s_10 (List.mem_of_getElem? (i := 130) rfl) rfl
theorem w_2292 : (Jvm.Cond.laysFinal "MarkupJudgeModel$Reader" "MarkupJudgeModel$Reader" "listCounts" "[I") ∈ lwG := s_10 (List.mem_of_getElem? (i := 132) rfl) rfl
theorem w_2294 : (Jvm.Cond.lays "MarkupJudgeModel$Reader" "MarkupJudgeModel$Reader" "declaredAttributes" "I") ∈ lwG := s_10 (List.mem_of_getElem? (i := 134) rfl) rfl
theorem w_2296 : (Jvm.Cond.laysFinal "MarkupJudgeModel$Reader" "MarkupJudgeModel$Reader" "lists" "[I") ∈ lwG := s_10 (List.mem_of_getElem? (i := 136) rfl) rfl
theorem w_2298 : (Jvm.Cond.lays "MarkupJudgeModel$Reader" "MarkupJudgeModel$Reader" "listed" "I") ∈ lwG := s_10 (List.mem_of_getElem? (i := 138) rfl) rfl
theorem w_2300 : (Jvm.Cond.laysFinal "MarkupJudgeModel$Reader" "MarkupJudgeModel$Reader" "openElements" "[I") ∈ lwG := s_10 (List.mem_of_getElem? (i := 140) rfl) rfl
theorem w_2302 : (Jvm.Cond.laysFinal "MarkupJudgeModel$Reader" "MarkupJudgeModel$Reader" "openSerials" "[I") ∈ lwG := s_10 (List.mem_of_getElem? (i := 142) rfl) rfl
theorem w_2304 : (Jvm.Cond.laysFinal "MarkupJudgeModel$Reader" "MarkupJudgeModel$Reader" "openTouched" "[Z") ∈ lwG := s_10 (List.mem_of_getElem? (i := 144) rfl) rfl
theorem w_2306 : (Jvm.Cond.laysFinal "MarkupJudgeModel$Reader" "MarkupJudgeModel$Reader" "openSpoiled" "[Z") ∈ lwG := s_10 (List.mem_of_getElem? (i := 146) rfl) rfl
theorem w_2308 : (Jvm.Cond.laysFinal "MarkupJudgeModel$Reader" "MarkupJudgeModel$Reader" "openBase" "[I") ∈ lwG := s_10 (List.mem_of_getElem? (i := 148) rfl) rfl
theorem w_2310 : (Jvm.Cond.lays "MarkupJudgeModel$Reader" "MarkupJudgeModel$Reader" "open" "I") ∈ lwG := s_10 (List.mem_of_getElem? (i := 150) rfl) rfl
theorem w_2312 : (Jvm.Cond.laysFinal "MarkupJudgeModel$Reader" "MarkupJudgeModel$Reader" "childNames" "[I") ∈ lwG := s_10 (List.mem_of_getElem? (i := 152) rfl) rfl
theorem w_2314 : (Jvm.Cond.lays "MarkupJudgeModel$Reader" "MarkupJudgeModel$Reader" "childCount" "I") ∈ lwG := s_10 (List.mem_of_getElem? (i := 154) rfl) rfl
theorem w_2316 : (Jvm.Cond.laysFinal "MarkupJudgeModel$Reader" "MarkupJudgeModel$Reader" "valueAt" "[I") ∈ lwG := s_10 (List.mem_of_getElem? (i := 156) rfl) rfl
theorem w_2318 : (Jvm.Cond.laysFinal "MarkupJudgeModel$Reader" "MarkupJudgeModel$Reader" "valueEnd" "[I") ∈ lwG := s_10 (List.mem_of_getElem? (i := 158) rfl) rfl
theorem w_2320 : (Jvm.Cond.laysFinal "MarkupJudgeModel$Reader" "MarkupJudgeModel$Reader" "valueOwner" "[I") ∈ lwG := s_10 (List.mem_of_getElem? (i := 160) rfl) rfl
theorem w_2322 : (Jvm.Cond.laysFinal "MarkupJudgeModel$Reader" "MarkupJudgeModel$Reader" "leaf" "[I") ∈ lwG := s_10 (List.mem_of_getElem? (i := 162) rfl) rfl
theorem w_2324 : (Jvm.Cond.laysFinal "MarkupJudgeModel$Reader" "MarkupJudgeModel$Reader" "now" "[Z") ∈ lwG := s_10 (List.mem_of_getElem? (i := 164) rfl) rfl
theorem w_2326 : (Jvm.Cond.laysFinal "MarkupJudgeModel$Reader" "MarkupJudgeModel$Reader" "later" "[Z") ∈ lwG := s_10 (List.mem_of_getElem? (i := 166) rfl) rfl
theorem w_2328 : (Jvm.Cond.lays "MarkupJudgeModel$Reader" "MarkupJudgeModel$Reader" "laterComplete" "Z") ∈ lwG := s_10 (List.mem_of_getElem? (i := 168) rfl) rfl
theorem w_2330 : (Jvm.Cond.laysFinal "MarkupJudgeModel$Reader" "MarkupJudgeModel$Reader" "groups" "[B") ∈ lwG := s_10 (List.mem_of_getElem? (i := 170) rfl) rfl
theorem w_2332 : (Jvm.Cond.lays "MarkupJudgeModel$Reader" "MarkupJudgeModel$Reader" "decoded" "I") ∈ lwG := s_10 (List.mem_of_getElem? (i := 172) rfl) rfl
theorem w_2334 : (Jvm.Cond.lays "MarkupJudgeModel$Reader" "MarkupJudgeModel$Reader" "names" "I") ∈ lwG := s_10 (List.mem_of_getElem? (i := 174) rfl) rfl
theorem w_2336 : (Jvm.Cond.lays "MarkupJudgeModel$Reader" "MarkupJudgeModel$Reader" "deep" "Z") ∈ lwG := s_10 (List.mem_of_getElem? (i := 176) rfl) rfl
theorem w_2338 : (Jvm.Cond.lays "MarkupJudgeModel$Reader" "MarkupJudgeModel$Reader" "type" "I") ∈ lwG := s_10 (List.mem_of_getElem? (i := 178) rfl) rfl
theorem w_2340 : (Jvm.Cond.lays "MarkupJudgeModel$Reader" "MarkupJudgeModel$Reader" "typeList" "I") ∈ lwG := s_10 (List.mem_of_getElem? (i := 180) rfl) rfl
theorem w_2342 : (Jvm.Cond.lays "MarkupJudgeModel$Reader" "MarkupJudgeModel$Reader" "pcdata" "Z") ∈ lwG := s_10 (List.mem_of_getElem? (i := 182) rfl) rfl
theorem w_2344 : (Jvm.Cond.lays "MarkupJudgeModel$Reader" "MarkupJudgeModel$Reader" "defaultKind" "I") ∈ lwG := s_10 (List.mem_of_getElem? (i := 184) rfl) rfl
theorem w_2346 : (Jvm.Cond.lays "MarkupJudgeModel$Reader" "MarkupJudgeModel$Reader" "valueFrom" "I") ∈ lwG := s_10 (List.mem_of_getElem? (i := 186) rfl) rfl
set_option maxRecDepth 100000 in
theorem i_KReader : ∀ w ∈ u_ws R_KReader T_KReader 83, w ∈ lwG := List.forall_mem_cons.mpr ⟨w_2182, List.forall_mem_cons.mpr ⟨w_2184, List.forall_mem_cons.mpr ⟨w_2186, List.forall_mem_cons.mpr ⟨w_2188, List.forall_mem_cons.mpr ⟨w_2190, List.forall_mem_cons.mpr ⟨w_2192, List.forall_mem_cons.mpr ⟨w_2194, List.forall_mem_cons.mpr ⟨w_2196, List.forall_mem_cons.mpr ⟨w_2198, List.forall_mem_cons.mpr ⟨w_2200, List.forall_mem_cons.mpr ⟨w_2202, List.forall_mem_cons.mpr ⟨w_2204, List.forall_mem_cons.mpr ⟨w_2206, List.forall_mem_cons.mpr ⟨w_2208, List.forall_mem_cons.mpr ⟨w_2210, List.forall_mem_cons.mpr ⟨w_2212, List.forall_mem_cons.mpr ⟨w_2214, List.forall_mem_cons.mpr ⟨w_2216, List.forall_mem_cons.mpr ⟨w_2218, List.forall_mem_cons.mpr ⟨w_2220, List.forall_mem_cons.mpr ⟨w_2222, List.forall_mem_cons.mpr ⟨w_2224, List.forall_mem_cons.mpr ⟨w_2226, List.forall_mem_cons.mpr ⟨w_2228, List.forall_mem_cons.mpr ⟨w_2230, List.forall_mem_cons.mpr ⟨w_2232, List.forall_mem_cons.mpr ⟨w_2234, List.forall_mem_cons.mpr ⟨w_2236, List.forall_mem_cons.mpr ⟨w_2238, List.forall_mem_cons.mpr ⟨w_2240, List.forall_mem_cons.mpr ⟨w_2242, List.forall_mem_cons.mpr ⟨w_2244, List.forall_mem_cons.mpr ⟨w_2246, List.forall_mem_cons.mpr ⟨w_2248, List.forall_mem_cons.mpr ⟨w_2250, List.forall_mem_cons.mpr ⟨w_2252, List.forall_mem_cons.mpr ⟨w_2254, List.forall_mem_cons.mpr ⟨w_2256, List.forall_mem_cons.mpr ⟨w_2258, List.forall_mem_cons.mpr ⟨w_2260, List.forall_mem_cons.mpr ⟨w_2262, List.forall_mem_cons.mpr ⟨w_2264, List.forall_mem_cons.mpr ⟨w_2266, List.forall_mem_cons.mpr ⟨w_2268, List.forall_mem_cons.mpr ⟨w_2270, List.forall_mem_cons.mpr ⟨w_2272, List.forall_mem_cons.mpr ⟨w_2274, List.forall_mem_cons.mpr ⟨w_2276, List.forall_mem_cons.mpr ⟨w_2278, List.forall_mem_cons.mpr ⟨w_2280, List.forall_mem_cons.mpr ⟨w_2282, List.forall_mem_cons.mpr ⟨w_2284, List.forall_mem_cons.mpr ⟨w_2286, List.forall_mem_cons.mpr ⟨w_2288, List.forall_mem_cons.mpr ⟨w_2290, List.forall_mem_cons.mpr ⟨w_2292, List.forall_mem_cons.mpr ⟨w_2294, List.forall_mem_cons.mpr ⟨w_2296, List.forall_mem_cons.mpr ⟨w_2298, List.forall_mem_cons.mpr ⟨w_2300, List.forall_mem_cons.mpr ⟨w_2302, List.forall_mem_cons.mpr ⟨w_2304, List.forall_mem_cons.mpr ⟨w_2306, List.forall_mem_cons.mpr ⟨w_2308, List.forall_mem_cons.mpr ⟨w_2310, List.forall_mem_cons.mpr ⟨w_2312, List.forall_mem_cons.mpr ⟨w_2314, List.forall_mem_cons.mpr ⟨w_2316, List.forall_mem_cons.mpr ⟨w_2318, List.forall_mem_cons.mpr ⟨w_2320, List.forall_mem_cons.mpr ⟨w_2322, List.forall_mem_cons.mpr ⟨w_2324, List.forall_mem_cons.mpr ⟨w_2326, List.forall_mem_cons.mpr ⟨w_2328, List.forall_mem_cons.mpr ⟨w_2330, List.forall_mem_cons.mpr ⟨w_2332, List.forall_mem_cons.mpr ⟨w_2334, List.forall_mem_cons.mpr ⟨w_2336, List.forall_mem_cons.mpr ⟨w_2338, List.forall_mem_cons.mpr ⟨w_2340, List.forall_mem_cons.mpr ⟨w_2342, List.forall_mem_cons.mpr ⟨w_2344, List.forall_mem_cons.mpr ⟨w_2346, fun _ h => absurd h List.not_mem_nil⟩⟩⟩⟩⟩⟩⟩⟩⟩⟩⟩⟩⟩⟩⟩⟩⟩⟩⟩⟩⟩⟩⟩⟩⟩⟩⟩⟩⟩⟩⟩⟩⟩⟩⟩⟩⟩⟩⟩⟩⟩⟩⟩⟩⟩⟩⟩⟩⟩⟩⟩⟩⟩⟩⟩⟩⟩⟩⟩⟩⟩⟩⟩⟩⟩⟩⟩⟩⟩⟩⟩⟩⟩⟩⟩⟩⟩⟩⟩⟩⟩⟩⟩
theorem k_KReader : vC[15]? = some (R_KReader, T_KReader, 83) := rfl
theorem w_2531 : (Jvm.Cond.laysFinal "MarkupJudgeModel$Writer" "MarkupJudgeModel$Writer" "row" "[B") ∈ lwG := s_11 (List.mem_of_getElem? (i := 131) rfl) rfl
theorem w_2533 : (Jvm.Cond.lays "MarkupJudgeModel$Writer" "MarkupJudgeModel$Writer" "doc" "LMarkupJudgeModel$Doc;") ∈ lwG := s_11 (List.mem_of_getElem? (i := 133) rfl) rfl
theorem w_2535 : (Jvm.Cond.lays "MarkupJudgeModel$Writer" "MarkupJudgeModel$Writer" "reader" "LMarkupJudgeModel$Reader;") ∈ lwG := s_11 (List.mem_of_getElem? (i := 135) rfl) rfl
theorem w_2537 : (Jvm.Cond.lays "MarkupJudgeModel$Writer" "MarkupJudgeModel$Writer" "mode" "I") ∈ lwG := s_11 (List.mem_of_getElem? (i := 137) rfl) rfl
theorem w_2539 : (Jvm.Cond.lays "MarkupJudgeModel$Writer" "MarkupJudgeModel$Writer" "size" "I") ∈ lwG := s_11 (List.mem_of_getElem? (i := 139) rfl) rfl
theorem w_2541 : (Jvm.Cond.lays "MarkupJudgeModel$Writer" "MarkupJudgeModel$Writer" "differs" "Z") ∈ lwG := s_11 (List.mem_of_getElem? (i := 141) rfl) rfl
theorem w_2543 : (Jvm.Cond.laysFinal "MarkupJudgeModel$Writer" "MarkupJudgeModel$Writer" "order" "[I") ∈ lwG := s_11 (List.mem_of_getElem? (i := 143) rfl) rfl
theorem w_2545 : (Jvm.Cond.laysFinal "MarkupJudgeModel$Writer" "MarkupJudgeModel$Writer" "open" "[I") ∈ lwG := s_11 (List.mem_of_getElem? (i := 145) rfl) rfl
theorem w_2547 : (Jvm.Cond.lays "MarkupJudgeModel$Writer" "MarkupJudgeModel$Writer" "depth" "I") ∈ lwG := s_11 (List.mem_of_getElem? (i := 147) rfl) rfl
theorem w_2549 : (Jvm.Cond.lays "MarkupJudgeModel$Writer" "MarkupJudgeModel$Writer" "letters" "I") ∈ lwG := s_11 (List.mem_of_getElem? (i := 149) rfl) rfl
theorem w_2551 : (Jvm.Cond.lays "MarkupJudgeModel$Writer" "MarkupJudgeModel$Writer" "lastPrefix" "I") ∈ lwG := s_11 (List.mem_of_getElem? (i := 151) rfl) rfl
theorem w_2553 : (Jvm.Cond.lays "MarkupJudgeModel$Writer" "MarkupJudgeModel$Writer" "lastMeaning" "I") ∈ lwG := s_11 (List.mem_of_getElem? (i := 153) rfl) rfl
theorem w_2555 : (Jvm.Cond.laysFinal "MarkupJudgeModel$Writer" "MarkupJudgeModel$Writer" "meanings" "[I") ∈ lwG := s_11 (List.mem_of_getElem? (i := 155) rfl) rfl
set_option maxRecDepth 100000 in
theorem i_KWriter : ∀ w ∈ u_ws R_KWriter T_KWriter 13, w ∈ lwG := List.forall_mem_cons.mpr ⟨w_2531, List.forall_mem_cons.mpr ⟨w_2533, List.forall_mem_cons.mpr ⟨w_2535, List.forall_mem_cons.mpr ⟨w_2537, List.forall_mem_cons.mpr ⟨w_2539, List.forall_mem_cons.mpr ⟨w_2541, List.forall_mem_cons.mpr ⟨w_2543, List.forall_mem_cons.mpr ⟨w_2545, List.forall_mem_cons.mpr ⟨w_2547, List.forall_mem_cons.mpr ⟨w_2549, List.forall_mem_cons.mpr ⟨w_2551, List.forall_mem_cons.mpr ⟨w_2553, List.forall_mem_cons.mpr ⟨w_2555, fun _ h => absurd h List.not_mem_nil⟩⟩⟩⟩⟩⟩⟩⟩⟩⟩⟩⟩⟩
theorem k_KWriter : vC[16]? = some (R_KWriter, T_KWriter, 13) := rfl
