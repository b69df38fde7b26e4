/-! what the tables' checks are said in -/
def fty (a k : Nat) : FieldType := match vwCl[a]? with
  | some q => (parseFieldDescriptor (q.2.1 k).2.2.1).getD .int
  | none => .int
def fnum (a : Nat) : Nat := match vwCl[a]? with
  | some q => q.2.2
  | none => 0
def excN (a : Nat) : String := match a with
  | 0 => "java/lang/IllegalStateException"
  | 1 => "java/lang/IllegalArgumentException"
  | _ => "java/lang/IndexOutOfBoundsException"
/-- where an exception that comes out at pc is caught: the law's own rows of its table (of classes by the names of excN) -/
def catN (ct : Nat) : String := match ct with
  | 13 => "java/lang/IllegalStateException"
  | 19 => "java/lang/IllegalArgumentException"
  | 24 => "java/lang/IndexOutOfBoundsException"
  | _ => ""
def tgOf (pc : Nat) (off : Int) : Nat := ((pc : Int) + off).toNat
def mInt (a : Nat) : Int32 := match a with
  | 0 => -2147483648
  | _ => 2147483647
def mLong (a : Nat) : Int64 := match a with
  | 0 => 31
  | 1 => 977
  | _ => 37
def tyTag (t : Nat) : FieldType := match t with
  | 0 => .int
  | 1 => .long
  | 2 => .byte
  | 3 => .boolean
  | 4 => .object "TerraceRain$Branch"
  | 5 => .object "TerraceRain$Keyword"
  | _ => .object "java/lang/String"
def tagOf : ArrayType → Nat
  | .int => 0
  | .long => 1
  | .byte => 2
  | .boolean => 3
  | _ => 9
def SNM (k : Nat) : String × String × String := match k with
  | 0 => ("TerraceRain$Tokens", "KEYWORDS", "[LTerraceRain$Keyword;")
  | 1 => ("TerraceRainModel", "WORDS", "[Ljava/lang/String;")
  | 2 => ("java/lang/String", "COMPACT_STRINGS", "Z")
  | _ => ("jdk/internal/util/Preconditions", "SIOOBE_FORMATTER", "Ljava/util/function/BiFunction;")
def CNM (k : Nat) : String := match k with
  | 20 => "TerraceRain$Keyword"
  | _ => "java/lang/String"
def CFM (a b : Nat) : String × String × String := match a, b with
  | 20, 0 => ("TerraceRain$Keyword", "text", "Ljava/lang/String;")
  | 20, _ => ("TerraceRain$Keyword", "token", "I")
  | _, 0 => ("java/lang/String", "value", "[B")
  | _, _ => ("java/lang/String", "coder", "B")
/-- words that a callee must be told by hand -/
def nwK : Cond → Bool
  | .fieldLinkNest .. => true
  | .methodLinkNest .. => true
  | .castable .. => true
  | .declares .. => true
  | _ => false
def GWL : List Cond := lw_tbl.filter goodWord
def NWL : List Cond := lw_tbl.filter nwK
theorem gwl_of {k : Nat} {w : Cond} (h : lw_tbl[k]? = some w) (hg : goodWord w = true) : w ∈ GWL := List.mem_filter.mpr ⟨List.mem_of_getElem? h, hg⟩
theorem nwl_of {k : Nat} {w : Cond} (h : lw_tbl[k]? = some w) (hg : nwK w = true) : w ∈ NWL := List.mem_filter.mpr ⟨List.mem_of_getElem? h, hg⟩
def mcw (q : MRow) : Cond := match q.2.2.2.2.1 with
  | [] => .code q.1 q.2.1 q.2.2.1 q.2.2.2.1
  | t => .codeWith q.1 q.2.1 q.2.2.1 q.2.2.2.1 t
def mws (q : MRow) : List Cond := mcw q :: GWL
