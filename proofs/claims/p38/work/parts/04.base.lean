/-! what the tables' checks are said in -/
def fty (a k : Nat) : FieldType := match vwCl[a]? with
  | some q => (parseFieldDescriptor (q.2.1 k).2.2.1).getD .int
  | none => .int
def fnum (a : Nat) : Nat := match vwCl[a]? with
  | some q => q.2.2
  | none => 0
def excN (a : Nat) : String := match a with
  | 0 => "java/lang/IllegalStateException"
  | 1 => "java/lang/IllegalArgumentException"
  | _ => "java/lang/IndexOutOfBoundsException"
def tgOf (pc : Nat) (off : Int) : Nat := ((pc : Int) + off).toNat
def mInt (a : Nat) : Int32 := match a with
  | 0 => -2147483648
  | 1 => 2147483647
  | 2 => 2147483639
  | 3 => 790386105
  | _ => 1000000
def mLong (a : Nat) : Int64 := match a with
  | 0 => 31
  | _ => 977
def tyTag (t : Nat) : FieldType := match t with
  | 0 => .int
  | 1 => .long
  | 2 => .byte
  | 3 => .boolean
  | 4 => .object "TerraceRain$Branch"
  | 5 => .object "TerraceRain$Keyword"
  | 6 => .object "java/lang/String"
  | 7 => .array .int
  | _ => .object "TerraceRainLaw$Order"
/-- the kinds of arrays that are made -/
def crT : List Nat := [0, 2, 4, 6, 7, 8]
def tagOf : ArrayType → Nat
  | .int => 0
  | .long => 1
  | .byte => 2
  | .boolean => 3
  | _ => 9
def SNM (k : Nat) : String × String × String := match k with
  | 0 => ("TerraceRain$Tokens", "KEYWORDS", "[LTerraceRain$Keyword;")
  | 1 => ("java/lang/Integer", "DigitOnes", "[B")
  | 2 => ("java/lang/String", "COMPACT_STRINGS", "Z")
  | 4 => ("java/lang/Integer", "DigitTens", "[B")
  | _ => ("jdk/internal/util/Preconditions", "SIOOBE_FORMATTER", "Ljava/util/function/BiFunction;")
def CNM (k : Nat) : String := match k with
  | 20 => "TerraceRain$Keyword"
  | _ => "java/lang/String"
def CFM (a b : Nat) : String × String × String := match a, b with
  | 20, 0 => ("TerraceRain$Keyword", "text", "Ljava/lang/String;")
  | 20, _ => ("TerraceRain$Keyword", "token", "I")
  | _, b => ((TJ0 b).1, (TJ0 b).2.1, (TJ0 b).2.2.1)
/-- the law's texts: class, place in the pool, text -/
def LSX (k : Nat) : String × Nat × String := match k with
  | 0 => ("TerraceRainLaw", 73, "terraces ")
  | 1 => ("TerraceRainLaw", 84, ";")
  | 2 => ("TerraceRainLaw", 111, "\n")
  | 3 => ("TerraceRainLaw$Order", 16, "rain ")
  | 4 => ("TerraceRainLaw$Tree", 62, "")
  | 5 => ("TerraceRainLaw$Tree", 64, "day ")
  | 6 => ("TerraceRainLaw$Tree", 66, "pushes ")
  | 7 => ("TerraceRainLaw$Tree", 68, "water ")
  | 8 => ("TerraceRainLaw$Tree", 70, "highest ")
  | 9 => ("TerraceRainLaw$Tree", 72, "lowest ")
  | 10 => ("TerraceRainLaw$Tree", 74, "waiting ")
  | 11 => ("TerraceRainLaw$Tree", 76, "+")
  | 12 => ("TerraceRainLaw$Tree", 78, "-")
  | 13 => ("TerraceRainLaw$Tree", 80, "*")
  | 14 => ("TerraceRainLaw$Tree", 82, "/")
  | 15 => ("TerraceRainLaw$Tree", 84, "min(")
  | 16 => ("TerraceRainLaw$Tree", 86, "max(")
  | 17 => ("TerraceRainLaw$Tree", 88, "<")
  | 18 => ("TerraceRainLaw$Tree", 90, ">")
  | 19 => ("TerraceRainLaw$Tree", 92, "=")
  | 20 => ("TerraceRainLaw$Tree", 94, "<=")
  | 21 => ("TerraceRainLaw$Tree", 96, ">=")
  | 22 => ("TerraceRainLaw$Tree", 108, " ")
  | 23 => ("TerraceRainLaw$Tree", 114, "height(")
  | 24 => ("TerraceRainLaw$Tree", 116, "- (")
  | 25 => ("TerraceRainLaw$Tree", 121, ")")
  | 26 => ("TerraceRainLaw$Tree", 123, "(")
  | 27 => ("TerraceRainLaw$Tree", 125, ",")
  | 28 => ("TerraceRainLaw$Tree", 127, "not[")
  | 29 => ("TerraceRainLaw$Tree", 129, "]")
  | 30 => ("TerraceRainLaw$Tree", 131, "[")
  | 31 => ("TerraceRainLaw$Tree", 133, "and")
  | 32 => ("TerraceRainLaw$Tree", 135, "or")
  | 33 => ("TerraceRainLaw$Order", 35, "level ")
  | 34 => ("TerraceRainLaw$Order", 37, "look ")
  | 35 => ("TerraceRainLaw$Order", 39, "from ")
  | 36 => ("TerraceRainLaw$Order", 44, "to ")
  | 37 => ("TerraceRainLaw$Order", 52, "")
  | 38 => ("TerraceRainLaw$Order", 54, "when ")
  | _ => ("TerraceRainLaw$Order", 56, ";")
/-- words that a callee must be told by hand -/
def nwK : Cond → Bool
  | .fieldLinkNest .. => true
  | .methodLinkNest .. => true
  | .castable .. => true
  | .declares .. => true
  | _ => false
/-- the private methods of a StringBuilder's superclass are selected on it -/
def SBM : List MethodName := [⟨"java/lang/AbstractStringBuilder", "appendNull", "()Ljava/lang/AbstractStringBuilder;"⟩, ⟨"java/lang/AbstractStringBuilder", "ensureCapacityInternal", "(I)V"⟩, ⟨"java/lang/AbstractStringBuilder", "newCapacity", "(I)I"⟩, ⟨"java/lang/AbstractStringBuilder", "putStringAt", "(ILjava/lang/String;)V"⟩, ⟨"java/lang/AbstractStringBuilder", "inflateIfNeededFor", "(Ljava/lang/String;)V"⟩, ⟨"java/lang/AbstractStringBuilder", "inflate", "()V"⟩]
def SBW : List Cond := SBM.map (fun y => .selects "java/lang/StringBuilder" y y)
def lw_tb2 : List Cond := lw_tbl ++ SBW
def GWL : List Cond := lw_tb2.filter goodWord
def NWL : List Cond := lw_tb2.filter nwK
theorem gwl_of {k : Nat} {w : Cond} (h : lw_tb2[k]? = some w) (hg : goodWord w = true) : w ∈ GWL := List.mem_filter.mpr ⟨List.mem_of_getElem? h, hg⟩
theorem nwl_of {k : Nat} {w : Cond} (h : lw_tb2[k]? = some w) (hg : nwK w = true) : w ∈ NWL := List.mem_filter.mpr ⟨List.mem_of_getElem? h, hg⟩
def mcw (q : MRow) : Cond := match q.2.2.2.2.1 with
  | [] => .code q.1 q.2.1 q.2.2.1 q.2.2.2.1
  | t => .codeWith q.1 q.2.1 q.2.2.1 q.2.2.2.1 t
def mws (q : MRow) : List Cond := mcw q :: GWL
