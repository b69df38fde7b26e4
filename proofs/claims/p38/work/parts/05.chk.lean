/-! what a program decides of the tables, once for all methods -/
def lnI : Instr → Nat
  | .bipush _ => 2
  | .sipush _ => 3
  | .ldc _ => 2
  | .ldc2_w _ => 3
  | .iload _ => 2
  | .lload _ => 2
  | .dload _ => 2
  | .aload _ => 2
  | .istore _ => 2
  | .astore _ => 2
  | .lstore _ => 2
  | .dstore _ => 2
  | .iinc _ _ => 3
  | .goto _ => 3
  | .ifCond _ _ => 3
  | .if_icmp _ _ => 3
  | .ifnull _ => 3
  | .ifnonnull _ => 3
  | .getfield _ => 3
  | .putfield _ => 3
  | .getstatic _ => 3
  | .new _ => 3
  | .newarray _ => 2
  | .anewarray _ => 3
  | .invokestatic _ => 3
  | .invokevirtual _ => 3
  | .invokespecial _ => 3
  | .checkcast _ => 3
  | .ldc_w _ => 3
  | _ => 1
def isGW (w : Nat) (c : Cond) : Bool := decide (lw_tb2[w]? = some c) && goodWord c
def isNW (w : Nat) (c : Cond) : Bool := decide (lw_tb2[w]? = some c) && nwK c
def elNm (a : Nat) : String := match a with
  | 4 => "TerraceRain$Branch"
  | 6 => "java/lang/String"
  | 7 => "[I"
  | _ => "TerraceRainLaw$Order"
def lenN : MethodName := ⟨"java/lang/AbstractStringBuilder", "length", "()I"⟩
def clnN : MethodName := ⟨"[B", "clone", "()Ljava/lang/Object;"⟩
def hosts : List String := ["TerraceRain", "TerraceRainLaw"]
def chkF (own : String) (idx w : Nat) (C n d : String) : Bool := isGW w (.fieldLink own idx C n d) || hosts.any (fun h => isNW w (.fieldLinkNest own idx C n d h))
def chkM (own : String) (idx w : Nat) (y : MethodName) : Bool := isGW w (.methodLink own idx y) || hosts.any (fun h => isNW w (.methodLinkNest own idx y h))
def isRefT (t : FieldType) : Bool := match t with
  | .object _ => true
  | .array _ => true
  | _ => false
/-- the six places that throw: class and string and constructor by pool number, which text -/
def siteOf (own : String) (ik : Nat) (bytes : ByteArray) (pc : Nat) : Option (Nat × Nat × Nat) :=
  if own = "TerraceRain" then
    match decode bytes (pc + 3), decode bytes (pc + 4), decode bytes (pc + 6), decode bytes (pc + 9) with
    | .ok (.dup, 1), .ok (.ldc is, 2), .ok (.invokespecial ic, 3), .ok (.athrow, 1) => if is = 73 then some (is, ic, 0) else if is = 83 then some (is, ic, 1) else if is = 244 then some (is, ic, 2) else if is = 156 then some (is, ic, 3) else if is = 247 then some (is, ic, 4) else if is = 249 then some (is, ic, 5) else none
    | _, _, _, _ => none
  else none
def excNames : List String := ["java/lang/RuntimeException", "java/lang/Exception"]
def clN (r : Nat) : String := match vwCl[r]? with
  | some q => q.1
  | none => CNM r
def chkI (q : MRow) (pc : Nat) : MEn → Bool
  | (ins, l, a, b, w, r) => decide (decode q.2.1 pc = .ok (ins, l)) && (match ins with
    | .tableswitch df lo hi offs => (decide (hi = lo + (offs.size : Int) - 1)) && offs.toList.all (fun o => decide (0 ≤ (pc : Int) + o)) && decide (0 ≤ (pc : Int) + df)
    | .lookupswitch df ps => (ps.toList.zip (ps.toList.drop 1)).all (fun (a, next) => a.1 < next.1) && ps.toList.all (fun o => decide (0 ≤ (pc : Int) + o.2)) && decide (0 ≤ (pc : Int) + df)
    | .goto off => l == 3 && decide ((pc : Int) + off = (a : Int))
    | .ifCond _ off => l == 3 && decide ((pc : Int) + off = (a : Int))
    | .if_icmp _ off => l == 3 && decide ((pc : Int) + off = (a : Int))
    | .ifnull off => l == 3 && decide ((pc : Int) + off = (a : Int))
    | .ifnonnull off => l == 3 && decide ((pc : Int) + off = (a : Int))
    | .istore_n k => l == 1 && decide (k.val < q.2.2.1)
    | .istore k => l == 2 && decide (k < q.2.2.1)
    | .astore_n k => l == 1 && decide (k.val < q.2.2.1)
    | .astore k => l == 2 && decide (k < q.2.2.1)
    | .iinc k _ => l == 3 && decide (k < q.2.2.1)
    | .lstore_n k => l == 1 && decide (k.val + 1 < q.2.2.1)
    | .lstore k => l == 2 && decide (k + 1 < q.2.2.1)
    | .dstore k => l == 2 && decide (k + 1 < q.2.2.1)
    | .ldc idx => l == 2 && (if a < 100 then (decide (4 < a) || isGW w (.constant q.1.cls idx (mInt a))) else decide (a < 140) && decide ((LSX (a - 100)).1 = q.1.cls) && decide ((LSX (a - 100)).2.1 = idx))
    | .ldc2_w idx => l == 3 && isGW w (.constantLong q.1.cls idx (mLong a))
    | .getfield idx => l == 3 && (match vwCl[a]? with
      | some t => decide (b < t.2.2) && chkF q.1.cls idx w (t.2.1 b).1 (t.2.1 b).2.1 (t.2.1 b).2.2.1
      | none => chkF q.1.cls idx w (CFM a b).1 (CFM a b).2.1 (CFM a b).2.2)
    | .putfield idx => l == 3 && (match vwCl[a]? with
      | some t => decide (b < t.2.2) && chkF q.1.cls idx w (t.2.1 b).1 (t.2.1 b).2.1 (t.2.1 b).2.2.1 && (!(t.2.1 b).2.2.2 || (decide (q.1.name = "<init>") && decide ((t.2.1 b).1 = q.1.cls) && isGW w (.fieldLink q.1.cls idx (t.2.1 b).1 (t.2.1 b).2.1 (t.2.1 b).2.2.1)))
      | none => false)
    | .getstatic idx => l == 3 && (decide (a < 100) && chkF q.1.cls idx w (SNM a).1 (SNM a).2.1 (SNM a).2.2)
    | .new idx => l == 3 && (match b with
      | 0 => (match vwCl[a]? with
        | some t => isGW w (.classLink q.1.cls idx t.1)
        | none => false)
      | 1 => isGW w (.classLink q.1.cls idx (excN a)) && decide (a < 3) && q.2.2.2.2.1.isEmpty && (match siteOf q.1.cls idx q.2.1 pc with
        | some z => (vx_atS q.1.cls z.2.1 (excN a) excNames).all (fun c => decide (c ∈ lw_tb2) && (goodWord c || nwK c) && vx_ot c)
        | none => false)
      | _ => true)
    | .newarray t => l == 2 && (decide (3 < tagOf t) || (decide ((Cond.arrayClass (newarray.typeOf t)) ∈ lw_tb2) && (tagOf t == 0 || tagOf t == 2)))
    | .anewarray idx => l == 3 && (isGW w (.classLink q.1.cls idx (elNm a)) && decide (a ∈ [4, 6, 7, 8]))
    | .checkcast idx => l == 3 && (a == 99 || (a == 2 && isGW w (.classLink q.1.cls idx "[B")))
    | .invokestatic idx => l == 3 && (match a with
      | 1001 => isGW w (.methodLink q.1.cls idx arraycopyName)
      | 999 => true
      | _ => (match MT[a]? with
        | some y => chkM q.1.cls idx w y.1 && (y.2.2.2.2.2.2.1 == 0 || (y.2.2.2.2.2.2.1 == 3 && isGW w (.methodLink q.1.cls idx y.1))) && y.2.2.2.2.2.1 == b && decide (a < 257)
        | none => false))
    | .invokevirtual idx => l == 3 && (match a with
      | 999 => true
      | 1002 => isGW w (.methodLink q.1.cls idx clnN)
      | _ => (match MT[a]? with
        | some y => (if y.2.2.2.2.2.2.1 = 7 then isGW w (.methodLink q.1.cls idx lenN) && r == 11 else chkM q.1.cls idx w y.1 && ((y.2.2.2.2.2.2.1 == 1 && decide (clN r = y.1.cls)) || (y.2.2.2.2.2.2.1 == 5 && r == 11))) && y.2.2.2.2.2.1 == b && decide (a < 257)
        | none => false))
    | .invokespecial idx => l == 3 && (match a with
      | 999 => true
      | 1000 => isGW w (.methodLink q.1.cls idx Lib.objectInit)
      | _ => (match MT[a]? with
        | some y => chkM q.1.cls idx w y.1 && (y.2.2.2.2.2.2.1 == 2 || (y.2.2.2.2.2.2.1 == 6 && r == 11 && isGW w (.methodLink q.1.cls idx y.1) && decide (q.1.cls = "java/lang/StringBuilder"))) && y.2.2.2.2.2.1 == b && decide (a < 257)
        | none => false))
    | .ireturn => l == 1 && (match q.2.2.2.1, r with
      | some .int, 0 => true
      | some .boolean, 1 => true
      | some .byte, 2 => true
      | some .char, 3 => true
      | _, _ => false)
    | .lreturn => l == 1 && decide (q.2.2.2.1 = some .long)
    | .dreturn => l == 1 && decide (q.2.2.2.1 = some .double)
    | .areturn => l == 1 && (match q.2.2.2.1 with
      | some t => isRefT t
      | none => false)
    | .return_ => l == 1 && decide (q.2.2.2.1 = none)
    | i => l == lnI i)
/-- of a method as one that is called -/
def chkR (q : MRow) : Bool :=
  (q.2.2.2.2.2.2.1 == 4) || (isGW q.2.2.2.2.2.2.2.2.2.2 (.initialized q.1.cls) && decide (q.1.cls ≠ "java/lang/invoke/MethodHandle") && decide (q.1.cls ≠ "java/lang/invoke/VarHandle") && decide ((parseMethodDescriptor q.1.desc).map (fun d => d.parameters.length) = some q.2.2.2.2.2.1) && decide (q.2.2.1 ≤ 40) && plainFor q.1 &&
    (match q.2.2.2.2.2.2.1 with
      | 0 => isGW q.2.2.2.2.2.2.2.2.1 (.static q.1) && q.2.2.2.2.1.isEmpty
      | 3 => isGW q.2.2.2.2.2.2.2.2.1 (.static q.1) && !q.2.2.2.2.1.isEmpty
      | 1 => isGW q.2.2.2.2.2.2.2.2.1 (.instanceMethod q.1) && isGW q.2.2.2.2.2.2.2.2.2.1 (.selects q.1.cls q.1 q.1) && q.2.2.2.2.1.isEmpty
      | 5 => isGW q.2.2.2.2.2.2.2.2.1 (.instanceMethod q.1) && isGW q.2.2.2.2.2.2.2.2.2.1 (.selects "java/lang/StringBuilder" q.1 q.1) && q.2.2.2.2.1.isEmpty
      | 7 => isGW q.2.2.2.2.2.2.2.2.1 (.instanceMethod q.1) && isGW q.2.2.2.2.2.2.2.2.2.1 (.selects "java/lang/StringBuilder" lenN q.1) && q.2.2.2.2.1.isEmpty && decide (q.1.desc = "()I")
      | 6 => isGW q.2.2.2.2.2.2.2.2.1 (.instanceMethod q.1) && isGW q.2.2.2.2.2.2.2.2.2.1 (.sameMethod q.1.cls q.1.cls q.1.name q.1.desc) && q.2.2.2.2.1.isEmpty && decide (q.1.name ≠ "<init>") && decide (q.1.cls = "java/lang/AbstractStringBuilder")
      | 2 => isGW q.2.2.2.2.2.2.2.2.1 (.instanceMethod q.1) && decide (q.1.name = "<init>") && decide (q.2.2.2.1 = none) && q.2.2.2.2.1.isEmpty
      | _ => false))
def chkC (i : Nat) : Bool := match MT[i]?, KCL[i]? with
  | some q, some t => t.all (fun x => chkI q x.1 x.2)
  | _, _ => false
theorem tb_in {w : Cond} (h : w ∈ tables_1) : w ∈ lw_tb2 := List.mem_append_left _ (List.mem_append_right _ h)
theorem tb_1 {w : Cond} (h : w ∈ tables_1_1) : w ∈ lw_tb2 := tb_in (show w ∈ tables_1_1 ++ (tables_1_2 ++ (tables_1_3 ++ (tables_1_4 ++ (tables_1_5 ++ (tables_1_6 ++ tables_1_7))))) from List.mem_append_left _ h)
theorem tb_2 {w : Cond} (h : w ∈ tables_1_2) : w ∈ lw_tb2 := tb_in (show w ∈ tables_1_1 ++ (tables_1_2 ++ (tables_1_3 ++ (tables_1_4 ++ (tables_1_5 ++ (tables_1_6 ++ tables_1_7))))) from List.mem_append_right _ (List.mem_append_left _ h))
theorem tb_3 {w : Cond} (h : w ∈ tables_1_3) : w ∈ lw_tb2 := tb_in (show w ∈ tables_1_1 ++ (tables_1_2 ++ (tables_1_3 ++ (tables_1_4 ++ (tables_1_5 ++ (tables_1_6 ++ tables_1_7))))) from List.mem_append_right _ (List.mem_append_right _ (List.mem_append_left _ h)))
theorem tb_4 {w : Cond} (h : w ∈ tables_1_4) : w ∈ lw_tb2 := tb_in (show w ∈ tables_1_1 ++ (tables_1_2 ++ (tables_1_3 ++ (tables_1_4 ++ (tables_1_5 ++ (tables_1_6 ++ tables_1_7))))) from List.mem_append_right _ (List.mem_append_right _ (List.mem_append_right _ (List.mem_append_left _ h))))
theorem tb_5 {w : Cond} (h : w ∈ tables_1_5) : w ∈ lw_tb2 := tb_in (show w ∈ tables_1_1 ++ (tables_1_2 ++ (tables_1_3 ++ (tables_1_4 ++ (tables_1_5 ++ (tables_1_6 ++ tables_1_7))))) from List.mem_append_right _ (List.mem_append_right _ (List.mem_append_right _ (List.mem_append_right _ (List.mem_append_left _ h)))))
theorem tb_6 {w : Cond} (h : w ∈ tables_1_6) : w ∈ lw_tb2 := tb_in (show w ∈ tables_1_1 ++ (tables_1_2 ++ (tables_1_3 ++ (tables_1_4 ++ (tables_1_5 ++ (tables_1_6 ++ tables_1_7))))) from List.mem_append_right _ (List.mem_append_right _ (List.mem_append_right _ (List.mem_append_right _ (List.mem_append_right _ (List.mem_append_left _ h))))))
theorem tb_7 {w : Cond} (h : w ∈ tables_1_7) : w ∈ lw_tb2 := tb_in (show w ∈ tables_1_1 ++ (tables_1_2 ++ (tables_1_3 ++ (tables_1_4 ++ (tables_1_5 ++ (tables_1_6 ++ tables_1_7))))) from List.mem_append_right _ (List.mem_append_right _ (List.mem_append_right _ (List.mem_append_right _ (List.mem_append_right _ (List.mem_append_right _ (h)))))))
theorem gwl_in {w : Cond} (h : w ∈ lw_tb2) (hg : goodWord w = true) : w ∈ GWL := List.mem_filter.mpr ⟨h, hg⟩
theorem cw_0 : mcw mr_0 ∈ GWL := gwl_in (tb_1 (List.mem_of_getElem? (i := 142) rfl)) rfl
theorem cw_1 : mcw mr_1 ∈ GWL := gwl_in (tb_1 (List.mem_of_getElem? (i := 147) rfl)) rfl
theorem cw_2 : mcw mr_2 ∈ GWL := gwl_in (tb_1 (List.mem_of_getElem? (i := 151) rfl)) rfl
theorem cw_3 : mcw mr_3 ∈ GWL := gwl_in (tb_2 (List.mem_of_getElem? (i := 233) rfl)) rfl
theorem cw_4 : mcw mr_4 ∈ GWL := gwl_in (tb_2 (List.mem_of_getElem? (i := 72) rfl)) rfl
theorem cw_5 : mcw mr_5 ∈ GWL := gwl_in (tb_2 (List.mem_of_getElem? (i := 76) rfl)) rfl
theorem cw_6 : mcw mr_6 ∈ GWL := gwl_in (tb_3 (List.mem_of_getElem? (i := 5) rfl)) rfl
theorem cw_7 : mcw mr_7 ∈ GWL := gwl_in (tb_2 (List.mem_of_getElem? (i := 221) rfl)) rfl
theorem cw_8 : mcw mr_8 ∈ GWL := gwl_in (tb_3 (List.mem_of_getElem? (i := 17) rfl)) rfl
theorem cw_9 : mcw mr_9 ∈ GWL := gwl_in (tb_3 (List.mem_of_getElem? (i := 13) rfl)) rfl
theorem cw_10 : mcw mr_10 ∈ GWL := gwl_in (tb_3 (List.mem_of_getElem? (i := 27) rfl)) rfl
theorem cw_11 : mcw mr_11 ∈ GWL := gwl_in (tb_3 (List.mem_of_getElem? (i := 34) rfl)) rfl
theorem cw_12 : mcw mr_12 ∈ GWL := gwl_in (tb_3 (List.mem_of_getElem? (i := 191) rfl)) rfl
theorem cw_13 : mcw mr_13 ∈ GWL := gwl_in (tb_1 (List.mem_of_getElem? (i := 110) rfl)) rfl
theorem cw_14 : mcw mr_14 ∈ GWL := gwl_in (tb_4 (List.mem_of_getElem? (i := 187) rfl)) rfl
theorem cw_15 : mcw mr_15 ∈ GWL := gwl_in (tb_4 (List.mem_of_getElem? (i := 200) rfl)) rfl
theorem cw_16 : mcw mr_16 ∈ GWL := gwl_in (tb_4 (List.mem_of_getElem? (i := 218) rfl)) rfl
theorem cw_17 : mcw mr_17 ∈ GWL := gwl_in (tb_4 (List.mem_of_getElem? (i := 230) rfl)) rfl
theorem cw_18 : mcw mr_18 ∈ GWL := gwl_in (tb_4 (List.mem_of_getElem? (i := 234) rfl)) rfl
theorem cw_19 : mcw mr_19 ∈ GWL := gwl_in (tb_4 (List.mem_of_getElem? (i := 238) rfl)) rfl
theorem cw_20 : mcw mr_20 ∈ GWL := gwl_in (tb_5 (List.mem_of_getElem? (i := 13) rfl)) rfl
theorem cw_21 : mcw mr_21 ∈ GWL := gwl_in (tb_5 (List.mem_of_getElem? (i := 18) rfl)) rfl
theorem cw_22 : mcw mr_22 ∈ GWL := gwl_in (tb_5 (List.mem_of_getElem? (i := 2) rfl)) rfl
theorem cw_23 : mcw mr_23 ∈ GWL := gwl_in (tb_5 (List.mem_of_getElem? (i := 6) rfl)) rfl
theorem cw_24 : mcw mr_24 ∈ GWL := gwl_in (tb_5 (List.mem_of_getElem? (i := 21) rfl)) rfl
theorem cw_25 : mcw mr_25 ∈ GWL := gwl_in (tb_3 (List.mem_of_getElem? (i := 106) rfl)) rfl
theorem cw_26 : mcw mr_26 ∈ GWL := gwl_in (tb_5 (List.mem_of_getElem? (i := 9) rfl)) rfl
theorem cw_27 : mcw mr_27 ∈ GWL := gwl_in (tb_3 (List.mem_of_getElem? (i := 135) rfl)) rfl
theorem cw_28 : mcw mr_28 ∈ GWL := gwl_in (tb_1 (List.mem_of_getElem? (i := 78) rfl)) rfl
theorem cw_29 : mcw mr_29 ∈ GWL := gwl_in (tb_1 (List.mem_of_getElem? (i := 83) rfl)) rfl
theorem cw_30 : mcw mr_30 ∈ GWL := gwl_in (tb_5 (List.mem_of_getElem? (i := 38) rfl)) rfl
theorem cw_31 : mcw mr_31 ∈ GWL := gwl_in (tb_4 (List.mem_of_getElem? (i := 209) rfl)) rfl
theorem cw_32 : mcw mr_32 ∈ GWL := gwl_in (tb_4 (List.mem_of_getElem? (i := 222) rfl)) rfl
theorem cw_33 : mcw mr_33 ∈ GWL := gwl_in (tb_4 (List.mem_of_getElem? (i := 226) rfl)) rfl
theorem cw_34 : mcw mr_34 ∈ GWL := gwl_in (tb_3 (List.mem_of_getElem? (i := 103) rfl)) rfl
theorem cw_35 : mcw mr_35 ∈ GWL := gwl_in (tb_5 (List.mem_of_getElem? (i := 29) rfl)) rfl
theorem cw_36 : mcw mr_36 ∈ GWL := gwl_in (tb_5 (List.mem_of_getElem? (i := 25) rfl)) rfl
theorem cw_37 : mcw mr_37 ∈ GWL := gwl_in (tb_5 (List.mem_of_getElem? (i := 33) rfl)) rfl
theorem cw_38 : mcw mr_38 ∈ GWL := gwl_in (tb_1 (List.mem_of_getElem? (i := 41) rfl)) rfl
theorem cw_39 : mcw mr_39 ∈ GWL := gwl_in (tb_4 (List.mem_of_getElem? (i := 116) rfl)) rfl
theorem cw_40 : mcw mr_40 ∈ GWL := gwl_in (tb_4 (List.mem_of_getElem? (i := 121) rfl)) rfl
theorem cw_41 : mcw mr_41 ∈ GWL := gwl_in (tb_4 (List.mem_of_getElem? (i := 130) rfl)) rfl
theorem cw_42 : mcw mr_42 ∈ GWL := gwl_in (tb_4 (List.mem_of_getElem? (i := 150) rfl)) rfl
theorem cw_43 : mcw mr_43 ∈ GWL := gwl_in (tb_4 (List.mem_of_getElem? (i := 146) rfl)) rfl
theorem cw_44 : mcw mr_44 ∈ GWL := gwl_in (tb_4 (List.mem_of_getElem? (i := 159) rfl)) rfl
theorem cw_45 : mcw mr_45 ∈ GWL := gwl_in (tb_4 (List.mem_of_getElem? (i := 167) rfl)) rfl
theorem cw_46 : mcw mr_46 ∈ GWL := gwl_in (tb_4 (List.mem_of_getElem? (i := 173) rfl)) rfl
theorem cw_47 : mcw mr_47 ∈ GWL := gwl_in (tb_1 (List.mem_of_getElem? (i := 55) rfl)) rfl
theorem cw_48 : mcw mr_48 ∈ GWL := gwl_in (tb_4 (List.mem_of_getElem? (i := 138) rfl)) rfl
theorem cw_49 : mcw mr_49 ∈ GWL := gwl_in (tb_4 (List.mem_of_getElem? (i := 196) rfl)) rfl
theorem cw_50 : mcw mr_50 ∈ GWL := gwl_in (tb_4 (List.mem_of_getElem? (i := 205) rfl)) rfl
theorem cw_51 : mcw mr_51 ∈ GWL := gwl_in (tb_4 (List.mem_of_getElem? (i := 213) rfl)) rfl
theorem cw_52 : mcw mr_52 ∈ GWL := gwl_in (tb_4 (List.mem_of_getElem? (i := 192) rfl)) rfl
theorem cw_53 : mcw mr_53 ∈ GWL := gwl_in (tb_4 (List.mem_of_getElem? (i := 141) rfl)) rfl
theorem cw_54 : mcw mr_54 ∈ GWL := gwl_in (tb_4 (List.mem_of_getElem? (i := 154) rfl)) rfl
theorem cw_55 : mcw mr_55 ∈ GWL := gwl_in (tb_4 (List.mem_of_getElem? (i := 163) rfl)) rfl
theorem cw_56 : mcw mr_56 ∈ GWL := gwl_in (tb_4 (List.mem_of_getElem? (i := 179) rfl)) rfl
theorem cw_57 : mcw mr_57 ∈ GWL := gwl_in (tb_4 (List.mem_of_getElem? (i := 183) rfl)) rfl
theorem cw_58 : mcw mr_58 ∈ GWL := gwl_in (tb_1 (List.mem_of_getElem? (i := 136) rfl)) rfl
theorem cw_59 : mcw mr_59 ∈ GWL := gwl_in (tb_2 (List.mem_of_getElem? (i := 10) rfl)) rfl
theorem cw_60 : mcw mr_60 ∈ GWL := gwl_in (tb_2 (List.mem_of_getElem? (i := 16) rfl)) rfl
theorem cw_61 : mcw mr_61 ∈ GWL := gwl_in (tb_2 (List.mem_of_getElem? (i := 20) rfl)) rfl
theorem cw_62 : mcw mr_62 ∈ GWL := gwl_in (tb_2 (List.mem_of_getElem? (i := 68) rfl)) rfl
theorem cw_63 : mcw mr_63 ∈ GWL := gwl_in (tb_2 (List.mem_of_getElem? (i := 229) rfl)) rfl
theorem cw_64 : mcw mr_64 ∈ GWL := gwl_in (tb_3 (List.mem_of_getElem? (i := 177) rfl)) rfl
theorem cw_65 : mcw mr_65 ∈ GWL := gwl_in (tb_2 (List.mem_of_getElem? (i := 64) rfl)) rfl
theorem cw_66 : mcw mr_66 ∈ GWL := gwl_in (tb_2 (List.mem_of_getElem? (i := 217) rfl)) rfl
theorem cw_67 : mcw mr_67 ∈ GWL := gwl_in (tb_2 (List.mem_of_getElem? (i := 209) rfl)) rfl
theorem cw_68 : mcw mr_68 ∈ GWL := gwl_in (tb_2 (List.mem_of_getElem? (i := 237) rfl)) rfl
theorem cw_69 : mcw mr_69 ∈ GWL := gwl_in (tb_3 (List.mem_of_getElem? (i := 1) rfl)) rfl
theorem cw_70 : mcw mr_70 ∈ GWL := gwl_in (tb_3 (List.mem_of_getElem? (i := 9) rfl)) rfl
theorem cw_71 : mcw mr_71 ∈ GWL := gwl_in (tb_3 (List.mem_of_getElem? (i := 56) rfl)) rfl
theorem cw_72 : mcw mr_72 ∈ GWL := gwl_in (tb_3 (List.mem_of_getElem? (i := 64) rfl)) rfl
theorem cw_73 : mcw mr_73 ∈ GWL := gwl_in (tb_3 (List.mem_of_getElem? (i := 118) rfl)) rfl
theorem cw_74 : mcw mr_74 ∈ GWL := gwl_in (tb_1 (List.mem_of_getElem? (i := 123) rfl)) rfl
theorem cw_75 : mcw mr_75 ∈ GWL := gwl_in (tb_3 (List.mem_of_getElem? (i := 99) rfl)) rfl
theorem cw_76 : mcw mr_76 ∈ GWL := gwl_in (tb_3 (List.mem_of_getElem? (i := 128) rfl)) rfl
theorem cw_77 : mcw mr_77 ∈ GWL := gwl_in (tb_3 (List.mem_of_getElem? (i := 132) rfl)) rfl
theorem cw_78 : mcw mr_78 ∈ GWL := gwl_in (tb_3 (List.mem_of_getElem? (i := 114) rfl)) rfl
theorem cw_79 : mcw mr_79 ∈ GWL := gwl_in (tb_3 (List.mem_of_getElem? (i := 110) rfl)) rfl
theorem cw_80 : mcw mr_80 ∈ GWL := gwl_in (tb_3 (List.mem_of_getElem? (i := 138) rfl)) rfl
theorem cw_81 : mcw mr_81 ∈ GWL := gwl_in (tb_3 (List.mem_of_getElem? (i := 143) rfl)) rfl
theorem cw_82 : mcw mr_82 ∈ GWL := gwl_in (tb_3 (List.mem_of_getElem? (i := 146) rfl)) rfl
theorem cw_83 : mcw mr_83 ∈ GWL := gwl_in (tb_1 (List.mem_of_getElem? (i := 33) rfl)) rfl
theorem cw_84 : mcw mr_84 ∈ GWL := gwl_in (tb_4 (List.mem_of_getElem? (i := 112) rfl)) rfl
theorem cw_85 : mcw mr_85 ∈ GWL := gwl_in (tb_4 (List.mem_of_getElem? (i := 125) rfl)) rfl
theorem cw_86 : mcw mr_86 ∈ GWL := gwl_in (tb_4 (List.mem_of_getElem? (i := 134) rfl)) rfl
theorem cw_87 : mcw mr_87 ∈ GWL := gwl_in (tb_5 (List.mem_of_getElem? (i := 219) rfl)) rfl
theorem cw_88 : mcw mr_88 ∈ GWL := gwl_in (tb_2 (List.mem_of_getElem? (i := 52) rfl)) rfl
theorem cw_89 : mcw mr_89 ∈ GWL := gwl_in (tb_3 (List.mem_of_getElem? (i := 173) rfl)) rfl
theorem cw_90 : mcw mr_90 ∈ GWL := gwl_in (tb_3 (List.mem_of_getElem? (i := 181) rfl)) rfl
theorem cw_91 : mcw mr_91 ∈ GWL := gwl_in (tb_3 (List.mem_of_getElem? (i := 185) rfl)) rfl
theorem cw_92 : mcw mr_92 ∈ GWL := gwl_in (tb_2 (List.mem_of_getElem? (i := 56) rfl)) rfl
theorem cw_93 : mcw mr_93 ∈ GWL := gwl_in (tb_2 (List.mem_of_getElem? (i := 60) rfl)) rfl
theorem cw_94 : mcw mr_94 ∈ GWL := gwl_in (tb_2 (List.mem_of_getElem? (i := 80) rfl)) rfl
theorem cw_95 : mcw mr_95 ∈ GWL := gwl_in (tb_2 (List.mem_of_getElem? (i := 156) rfl)) rfl
theorem cw_96 : mcw mr_96 ∈ GWL := gwl_in (tb_2 (List.mem_of_getElem? (i := 160) rfl)) rfl
theorem cw_97 : mcw mr_97 ∈ GWL := gwl_in (tb_2 (List.mem_of_getElem? (i := 164) rfl)) rfl
theorem cw_98 : mcw mr_98 ∈ GWL := gwl_in (tb_2 (List.mem_of_getElem? (i := 168) rfl)) rfl
theorem cw_99 : mcw mr_99 ∈ GWL := gwl_in (tb_2 (List.mem_of_getElem? (i := 172) rfl)) rfl
theorem cw_100 : mcw mr_100 ∈ GWL := gwl_in (tb_2 (List.mem_of_getElem? (i := 176) rfl)) rfl
theorem cw_101 : mcw mr_101 ∈ GWL := gwl_in (tb_2 (List.mem_of_getElem? (i := 180) rfl)) rfl
theorem cw_102 : mcw mr_102 ∈ GWL := gwl_in (tb_2 (List.mem_of_getElem? (i := 200) rfl)) rfl
theorem cw_103 : mcw mr_103 ∈ GWL := gwl_in (tb_2 (List.mem_of_getElem? (i := 213) rfl)) rfl
theorem cw_104 : mcw mr_104 ∈ GWL := gwl_in (tb_2 (List.mem_of_getElem? (i := 225) rfl)) rfl
theorem cw_105 : mcw mr_105 ∈ GWL := gwl_in (tb_3 (List.mem_of_getElem? (i := 40) rfl)) rfl
theorem cw_106 : mcw mr_106 ∈ GWL := gwl_in (tb_3 (List.mem_of_getElem? (i := 44) rfl)) rfl
theorem cw_107 : mcw mr_107 ∈ GWL := gwl_in (tb_3 (List.mem_of_getElem? (i := 48) rfl)) rfl
theorem cw_108 : mcw mr_108 ∈ GWL := gwl_in (tb_3 (List.mem_of_getElem? (i := 52) rfl)) rfl
theorem cw_109 : mcw mr_109 ∈ GWL := gwl_in (tb_3 (List.mem_of_getElem? (i := 60) rfl)) rfl
theorem cw_110 : mcw mr_110 ∈ GWL := gwl_in (tb_3 (List.mem_of_getElem? (i := 68) rfl)) rfl
theorem cw_111 : mcw mr_111 ∈ GWL := gwl_in (tb_3 (List.mem_of_getElem? (i := 91) rfl)) rfl
theorem cw_112 : mcw mr_112 ∈ GWL := gwl_in (tb_3 (List.mem_of_getElem? (i := 95) rfl)) rfl
theorem cw_113 : mcw mr_113 ∈ GWL := gwl_in (tb_3 (List.mem_of_getElem? (i := 150) rfl)) rfl
theorem cw_114 : mcw mr_114 ∈ GWL := gwl_in (tb_3 (List.mem_of_getElem? (i := 154) rfl)) rfl
theorem cw_115 : mcw mr_115 ∈ GWL := gwl_in (tb_3 (List.mem_of_getElem? (i := 158) rfl)) rfl
theorem cw_116 : mcw mr_116 ∈ GWL := gwl_in (tb_6 (List.mem_of_getElem? (i := 40) rfl)) rfl
theorem cw_117 : mcw mr_117 ∈ GWL := gwl_in (tb_3 (List.mem_of_getElem? (i := 162) rfl)) rfl
theorem cw_118 : mcw mr_118 ∈ GWL := gwl_in (tb_3 (List.mem_of_getElem? (i := 166) rfl)) rfl
theorem cw_119 : mcw mr_119 ∈ GWL := gwl_in (tb_2 (List.mem_of_getElem? (i := 84) rfl)) rfl
theorem cw_120 : mcw mr_120 ∈ GWL := gwl_in (tb_2 (List.mem_of_getElem? (i := 204) rfl)) rfl
theorem cw_121 : mcw mr_121 ∈ GWL := gwl_in (tb_3 (List.mem_of_getElem? (i := 71) rfl)) rfl
theorem cw_122 : mcw mr_122 ∈ GWL := gwl_in (tb_5 (List.mem_of_getElem? (i := 46) rfl)) rfl
theorem cw_123 : mcw mr_123 ∈ GWL := gwl_in (tb_5 (List.mem_of_getElem? (i := 213) rfl)) rfl
theorem cw_124 : mcw mr_124 ∈ GWL := gwl_in (tb_3 (List.mem_of_getElem? (i := 213) rfl)) rfl
theorem cw_125 : mcw mr_125 ∈ GWL := gwl_in (tb_4 (List.mem_of_getElem? (i := 8) rfl)) rfl
theorem cw_126 : mcw mr_126 ∈ GWL := gwl_in (tb_3 (List.mem_of_getElem? (i := 226) rfl)) rfl
theorem cw_127 : mcw mr_127 ∈ GWL := gwl_in (tb_4 (List.mem_of_getElem? (i := 17) rfl)) rfl
theorem cw_128 : mcw mr_128 ∈ GWL := gwl_in (tb_3 (List.mem_of_getElem? (i := 239) rfl)) rfl
theorem cw_129 : mcw mr_129 ∈ GWL := gwl_in (tb_3 (List.mem_of_getElem? (i := 222) rfl)) rfl
theorem cw_130 : mcw mr_130 ∈ GWL := gwl_in (tb_4 (List.mem_of_getElem? (i := 4) rfl)) rfl
theorem cw_131 : mcw mr_131 ∈ GWL := gwl_in (tb_4 (List.mem_of_getElem? (i := 13) rfl)) rfl
theorem cw_132 : mcw mr_132 ∈ GWL := gwl_in (tb_3 (List.mem_of_getElem? (i := 205) rfl)) rfl
theorem cw_133 : mcw mr_133 ∈ GWL := gwl_in (tb_3 (List.mem_of_getElem? (i := 201) rfl)) rfl
theorem cw_134 : mcw mr_134 ∈ GWL := gwl_in (tb_3 (List.mem_of_getElem? (i := 209) rfl)) rfl
theorem cw_135 : mcw mr_135 ∈ GWL := gwl_in (tb_3 (List.mem_of_getElem? (i := 196) rfl)) rfl
theorem cw_136 : mcw mr_136 ∈ GWL := gwl_in (tb_3 (List.mem_of_getElem? (i := 218) rfl)) rfl
theorem cw_137 : mcw mr_137 ∈ GWL := gwl_in (tb_3 (List.mem_of_getElem? (i := 231) rfl)) rfl
theorem cw_138 : mcw mr_138 ∈ GWL := gwl_in (tb_4 (List.mem_of_getElem? (i := 28) rfl)) rfl
theorem cw_139 : mcw mr_139 ∈ GWL := gwl_in (tb_6 (List.mem_of_getElem? (i := 13) rfl)) rfl
theorem cw_140 : mcw mr_140 ∈ GWL := gwl_in (tb_3 (List.mem_of_getElem? (i := 235) rfl)) rfl
theorem cw_141 : mcw mr_141 ∈ GWL := gwl_in (tb_4 (List.mem_of_getElem? (i := 22) rfl)) rfl
theorem cw_142 : mcw mr_142 ∈ GWL := gwl_in (tb_6 (List.mem_of_getElem? (i := 67) rfl)) rfl
theorem cw_143 : mcw mr_143 ∈ GWL := gwl_in (tb_6 (List.mem_of_getElem? (i := 48) rfl)) rfl
theorem cw_144 : mcw mr_144 ∈ GWL := gwl_in (tb_6 (List.mem_of_getElem? (i := 118) rfl)) rfl
theorem cw_145 : mcw mr_145 ∈ GWL := gwl_in (tb_5 (List.mem_of_getElem? (i := 93) rfl)) rfl
theorem cw_146 : mcw mr_146 ∈ GWL := gwl_in (tb_5 (List.mem_of_getElem? (i := 97) rfl)) rfl
theorem cw_147 : mcw mr_147 ∈ GWL := gwl_in (tb_5 (List.mem_of_getElem? (i := 155) rfl)) rfl
theorem cw_148 : mcw mr_148 ∈ GWL := gwl_in (tb_5 (List.mem_of_getElem? (i := 85) rfl)) rfl
theorem cw_149 : mcw mr_149 ∈ GWL := gwl_in (tb_5 (List.mem_of_getElem? (i := 89) rfl)) rfl
theorem cw_150 : mcw mr_150 ∈ GWL := gwl_in (tb_5 (List.mem_of_getElem? (i := 190) rfl)) rfl
theorem cw_151 : mcw mr_151 ∈ GWL := gwl_in (tb_6 (List.mem_of_getElem? (i := 110) rfl)) rfl
theorem cw_152 : mcw mr_152 ∈ GWL := gwl_in (tb_5 (List.mem_of_getElem? (i := 125) rfl)) rfl
theorem cw_153 : mcw mr_153 ∈ GWL := gwl_in (tb_5 (List.mem_of_getElem? (i := 150) rfl)) rfl
theorem cw_154 : mcw mr_154 ∈ GWL := gwl_in (tb_5 (List.mem_of_getElem? (i := 146) rfl)) rfl
theorem cw_155 : mcw mr_155 ∈ GWL := gwl_in (tb_5 (List.mem_of_getElem? (i := 196) rfl)) rfl
theorem cw_156 : mcw mr_156 ∈ GWL := gwl_in (tb_5 (List.mem_of_getElem? (i := 193) rfl)) rfl
theorem cw_157 : mcw mr_157 ∈ GWL := gwl_in (tb_6 (List.mem_of_getElem? (i := 101) rfl)) rfl
theorem cw_158 : mcw mr_158 ∈ GWL := gwl_in (tb_5 (List.mem_of_getElem? (i := 181) rfl)) rfl
theorem cw_159 : mcw mr_159 ∈ GWL := gwl_in (tb_6 (List.mem_of_getElem? (i := 104) rfl)) rfl
theorem cw_160 : mcw mr_160 ∈ GWL := gwl_in (tb_5 (List.mem_of_getElem? (i := 174) rfl)) rfl
theorem cw_161 : mcw mr_161 ∈ GWL := gwl_in (tb_5 (List.mem_of_getElem? (i := 135) rfl)) rfl
theorem cw_162 : mcw mr_162 ∈ GWL := gwl_in (tb_6 (List.mem_of_getElem? (i := 45) rfl)) rfl
theorem cw_163 : mcw mr_163 ∈ GWL := gwl_in (tb_5 (List.mem_of_getElem? (i := 81) rfl)) rfl
theorem cw_164 : mcw mr_164 ∈ GWL := gwl_in (tb_5 (List.mem_of_getElem? (i := 187) rfl)) rfl
theorem cw_165 : mcw mr_165 ∈ GWL := gwl_in (tb_6 (List.mem_of_getElem? (i := 96) rfl)) rfl
theorem cw_166 : mcw mr_166 ∈ GWL := gwl_in (tb_6 (List.mem_of_getElem? (i := 116) rfl)) rfl
theorem cw_167 : mcw mr_167 ∈ GWL := gwl_in (tb_5 (List.mem_of_getElem? (i := 165) rfl)) rfl
theorem cw_168 : mcw mr_168 ∈ GWL := gwl_in (tb_5 (List.mem_of_getElem? (i := 109) rfl)) rfl
theorem cw_169 : mcw mr_169 ∈ GWL := gwl_in (tb_6 (List.mem_of_getElem? (i := 128) rfl)) rfl
theorem cw_170 : mcw mr_170 ∈ GWL := gwl_in (tb_6 (List.mem_of_getElem? (i := 122) rfl)) rfl
theorem cw_171 : mcw mr_171 ∈ GWL := gwl_in (tb_6 (List.mem_of_getElem? (i := 125) rfl)) rfl
theorem cw_172 : mcw mr_172 ∈ GWL := gwl_in (tb_5 (List.mem_of_getElem? (i := 100) rfl)) rfl
theorem cw_173 : mcw mr_173 ∈ GWL := gwl_in (tb_5 (List.mem_of_getElem? (i := 105) rfl)) rfl
theorem cw_174 : mcw mr_174 ∈ GWL := gwl_in (tb_5 (List.mem_of_getElem? (i := 138) rfl)) rfl
theorem cw_175 : mcw mr_175 ∈ GWL := gwl_in (tb_5 (List.mem_of_getElem? (i := 177) rfl)) rfl
theorem cw_176 : mcw mr_176 ∈ GWL := gwl_in (tb_4 (List.mem_of_getElem? (i := 52) rfl)) rfl
theorem cw_177 : mcw mr_177 ∈ GWL := gwl_in (tb_4 (List.mem_of_getElem? (i := 56) rfl)) rfl
theorem cw_178 : mcw mr_178 ∈ GWL := gwl_in (tb_4 (List.mem_of_getElem? (i := 60) rfl)) rfl
theorem cw_179 : mcw mr_179 ∈ GWL := gwl_in (tb_6 (List.mem_of_getElem? (i := 9) rfl)) rfl
theorem cw_180 : mcw mr_180 ∈ GWL := gwl_in (tb_6 (List.mem_of_getElem? (i := 35) rfl)) rfl
theorem cw_181 : mcw mr_181 ∈ GWL := gwl_in (tb_5 (List.mem_of_getElem? (i := 42) rfl)) rfl
theorem cw_182 : mcw mr_182 ∈ GWL := gwl_in (tb_6 (List.mem_of_getElem? (i := 171) rfl)) rfl
theorem cw_183 : mcw mr_183 ∈ GWL := gwl_in (tb_6 (List.mem_of_getElem? (i := 179) rfl)) rfl
theorem cw_184 : mcw mr_184 ∈ GWL := gwl_in (tb_6 (List.mem_of_getElem? (i := 182) rfl)) rfl
theorem cw_185 : mcw mr_185 ∈ GWL := gwl_in (tb_6 (List.mem_of_getElem? (i := 185) rfl)) rfl
theorem cw_186 : mcw mr_186 ∈ GWL := gwl_in (tb_6 (List.mem_of_getElem? (i := 188) rfl)) rfl
theorem cw_187 : mcw mr_187 ∈ GWL := gwl_in (tb_1 (List.mem_of_getElem? (i := 142) rfl)) rfl
theorem cw_188 : mcw mr_188 ∈ GWL := gwl_in (tb_1 (List.mem_of_getElem? (i := 142) rfl)) rfl
theorem cw_189 : mcw mr_189 ∈ GWL := gwl_in (tb_1 (List.mem_of_getElem? (i := 142) rfl)) rfl
theorem cw_190 : mcw mr_190 ∈ GWL := gwl_in (tb_1 (List.mem_of_getElem? (i := 142) rfl)) rfl
theorem cw_191 : mcw mr_191 ∈ GWL := gwl_in (tb_1 (List.mem_of_getElem? (i := 142) rfl)) rfl
theorem cw_192 : mcw mr_192 ∈ GWL := gwl_in (tb_1 (List.mem_of_getElem? (i := 142) rfl)) rfl
theorem cw_193 : mcw mr_193 ∈ GWL := gwl_in (tb_1 (List.mem_of_getElem? (i := 142) rfl)) rfl
theorem cw_194 : mcw mr_194 ∈ GWL := gwl_in (tb_1 (List.mem_of_getElem? (i := 142) rfl)) rfl
theorem cw_195 : mcw mr_195 ∈ GWL := gwl_in (tb_1 (List.mem_of_getElem? (i := 142) rfl)) rfl
theorem cw_196 : mcw mr_196 ∈ GWL := gwl_in (tb_1 (List.mem_of_getElem? (i := 142) rfl)) rfl
theorem cw_197 : mcw mr_197 ∈ GWL := gwl_in (tb_1 (List.mem_of_getElem? (i := 142) rfl)) rfl
theorem cw_198 : mcw mr_198 ∈ GWL := gwl_in (tb_1 (List.mem_of_getElem? (i := 142) rfl)) rfl
theorem cw_199 : mcw mr_199 ∈ GWL := gwl_in (tb_1 (List.mem_of_getElem? (i := 142) rfl)) rfl
theorem cw_200 : mcw mr_200 ∈ GWL := gwl_in (tb_1 (List.mem_of_getElem? (i := 142) rfl)) rfl
theorem cw_201 : mcw mr_201 ∈ GWL := gwl_in (tb_1 (List.mem_of_getElem? (i := 142) rfl)) rfl
theorem cw_202 : mcw mr_202 ∈ GWL := gwl_in (tb_1 (List.mem_of_getElem? (i := 142) rfl)) rfl
theorem cw_203 : mcw mr_203 ∈ GWL := gwl_in (tb_1 (List.mem_of_getElem? (i := 142) rfl)) rfl
theorem cw_204 : mcw mr_204 ∈ GWL := gwl_in (tb_1 (List.mem_of_getElem? (i := 142) rfl)) rfl
theorem cw_205 : mcw mr_205 ∈ GWL := gwl_in (tb_1 (List.mem_of_getElem? (i := 142) rfl)) rfl
theorem cw_206 : mcw mr_206 ∈ GWL := gwl_in (tb_1 (List.mem_of_getElem? (i := 142) rfl)) rfl
theorem cw_207 : mcw mr_207 ∈ GWL := gwl_in (tb_1 (List.mem_of_getElem? (i := 142) rfl)) rfl
theorem cw_208 : mcw mr_208 ∈ GWL := gwl_in (tb_1 (List.mem_of_getElem? (i := 142) rfl)) rfl
theorem cw_209 : mcw mr_209 ∈ GWL := gwl_in (tb_1 (List.mem_of_getElem? (i := 142) rfl)) rfl
theorem cw_210 : mcw mr_210 ∈ GWL := gwl_in (tb_1 (List.mem_of_getElem? (i := 142) rfl)) rfl
theorem cw_211 : mcw mr_211 ∈ GWL := gwl_in (tb_1 (List.mem_of_getElem? (i := 142) rfl)) rfl
theorem cw_212 : mcw mr_212 ∈ GWL := gwl_in (tb_1 (List.mem_of_getElem? (i := 142) rfl)) rfl
theorem cw_213 : mcw mr_213 ∈ GWL := gwl_in (tb_1 (List.mem_of_getElem? (i := 142) rfl)) rfl
theorem cw_214 : mcw mr_214 ∈ GWL := gwl_in (tb_1 (List.mem_of_getElem? (i := 142) rfl)) rfl
theorem cw_215 : mcw mr_215 ∈ GWL := gwl_in (tb_1 (List.mem_of_getElem? (i := 142) rfl)) rfl
theorem cw_216 : mcw mr_216 ∈ GWL := gwl_in (tb_1 (List.mem_of_getElem? (i := 142) rfl)) rfl
theorem cw_217 : mcw mr_217 ∈ GWL := gwl_in (tb_1 (List.mem_of_getElem? (i := 142) rfl)) rfl
theorem cw_218 : mcw mr_218 ∈ GWL := gwl_in (tb_1 (List.mem_of_getElem? (i := 142) rfl)) rfl
theorem cw_219 : mcw mr_219 ∈ GWL := gwl_in (tb_1 (List.mem_of_getElem? (i := 142) rfl)) rfl
theorem cw_220 : mcw mr_220 ∈ GWL := gwl_in (tb_1 (List.mem_of_getElem? (i := 142) rfl)) rfl
theorem cw_221 : mcw mr_221 ∈ GWL := gwl_in (tb_1 (List.mem_of_getElem? (i := 142) rfl)) rfl
theorem cw_222 : mcw mr_222 ∈ GWL := gwl_in (tb_1 (List.mem_of_getElem? (i := 142) rfl)) rfl
theorem cw_223 : mcw mr_223 ∈ GWL := gwl_in (tb_1 (List.mem_of_getElem? (i := 142) rfl)) rfl
theorem cw_224 : mcw mr_224 ∈ GWL := gwl_in (tb_3 (List.mem_of_getElem? (i := 121) rfl)) rfl
theorem cw_225 : mcw mr_225 ∈ GWL := gwl_in (tb_3 (List.mem_of_getElem? (i := 20) rfl)) rfl
theorem cw_226 : mcw mr_226 ∈ GWL := gwl_in (tb_3 (List.mem_of_getElem? (i := 23) rfl)) rfl
theorem cw_227 : mcw mr_227 ∈ GWL := gwl_in (tb_4 (List.mem_of_getElem? (i := 64) rfl)) rfl
theorem cw_228 : mcw mr_228 ∈ GWL := gwl_in (tb_4 (List.mem_of_getElem? (i := 74) rfl)) rfl
theorem cw_229 : mcw mr_229 ∈ GWL := gwl_in (tb_4 (List.mem_of_getElem? (i := 68) rfl)) rfl
theorem cw_230 : mcw mr_230 ∈ GWL := gwl_in (tb_4 (List.mem_of_getElem? (i := 78) rfl)) rfl
theorem cw_231 : mcw mr_231 ∈ GWL := gwl_in (tb_4 (List.mem_of_getElem? (i := 84) rfl)) rfl
theorem cw_232 : mcw mr_232 ∈ GWL := gwl_in (tb_4 (List.mem_of_getElem? (i := 81) rfl)) rfl
theorem cw_233 : mcw mr_233 ∈ GWL := gwl_in (tb_4 (List.mem_of_getElem? (i := 89) rfl)) rfl
theorem cw_234 : mcw mr_234 ∈ GWL := gwl_in (tb_1 (List.mem_of_getElem? (i := 142) rfl)) rfl
theorem cw_235 : mcw mr_235 ∈ GWL := gwl_in (tb_1 (List.mem_of_getElem? (i := 142) rfl)) rfl
theorem cw_236 : mcw mr_236 ∈ GWL := gwl_in (tb_1 (List.mem_of_getElem? (i := 142) rfl)) rfl
theorem cw_237 : mcw mr_237 ∈ GWL := gwl_in (tb_1 (List.mem_of_getElem? (i := 142) rfl)) rfl
theorem cw_238 : mcw mr_238 ∈ GWL := gwl_in (tb_1 (List.mem_of_getElem? (i := 142) rfl)) rfl
theorem cw_239 : mcw mr_239 ∈ GWL := gwl_in (tb_1 (List.mem_of_getElem? (i := 142) rfl)) rfl
theorem cw_240 : mcw mr_240 ∈ GWL := gwl_in (tb_1 (List.mem_of_getElem? (i := 142) rfl)) rfl
theorem cw_241 : mcw mr_241 ∈ GWL := gwl_in (tb_1 (List.mem_of_getElem? (i := 142) rfl)) rfl
theorem cw_242 : mcw mr_242 ∈ GWL := gwl_in (tb_1 (List.mem_of_getElem? (i := 142) rfl)) rfl
theorem cw_243 : mcw mr_243 ∈ GWL := gwl_in (tb_1 (List.mem_of_getElem? (i := 142) rfl)) rfl
theorem cw_244 : mcw mr_244 ∈ GWL := gwl_in (tb_1 (List.mem_of_getElem? (i := 142) rfl)) rfl
theorem cw_245 : mcw mr_245 ∈ GWL := gwl_in (tb_1 (List.mem_of_getElem? (i := 142) rfl)) rfl
theorem cw_246 : mcw mr_246 ∈ GWL := gwl_in (tb_1 (List.mem_of_getElem? (i := 142) rfl)) rfl
theorem cw_247 : mcw mr_247 ∈ GWL := gwl_in (tb_1 (List.mem_of_getElem? (i := 142) rfl)) rfl
theorem cw_248 : mcw mr_248 ∈ GWL := gwl_in (tb_1 (List.mem_of_getElem? (i := 142) rfl)) rfl
theorem cw_249 : mcw mr_249 ∈ GWL := gwl_in (tb_1 (List.mem_of_getElem? (i := 142) rfl)) rfl
theorem cw_250 : mcw mr_250 ∈ GWL := gwl_in (tb_1 (List.mem_of_getElem? (i := 142) rfl)) rfl
theorem cw_251 : mcw mr_251 ∈ GWL := gwl_in (tb_1 (List.mem_of_getElem? (i := 142) rfl)) rfl
theorem cw_252 : mcw mr_252 ∈ GWL := gwl_in (tb_1 (List.mem_of_getElem? (i := 142) rfl)) rfl
theorem cw_253 : mcw mr_253 ∈ GWL := gwl_in (tb_1 (List.mem_of_getElem? (i := 142) rfl)) rfl
theorem cw_254 : mcw mr_254 ∈ GWL := gwl_in (tb_1 (List.mem_of_getElem? (i := 142) rfl)) rfl
theorem cw_255 : mcw mr_255 ∈ GWL := gwl_in (tb_1 (List.mem_of_getElem? (i := 142) rfl)) rfl
theorem cw_256 : mcw mr_256 ∈ GWL := gwl_in (tb_1 (List.mem_of_getElem? (i := 142) rfl)) rfl
theorem cwl_0 : ∀ q ∈ MT_0, q.2.2.2.2.2.2.1 ≠ 4 → mcw q ∈ GWL := List.forall_mem_cons.mpr ⟨fun _ => cw_0, List.forall_mem_cons.mpr ⟨fun _ => cw_1, List.forall_mem_cons.mpr ⟨fun _ => cw_2, List.forall_mem_cons.mpr ⟨fun _ => cw_3, List.forall_mem_cons.mpr ⟨fun _ => cw_4, List.forall_mem_cons.mpr ⟨fun _ => cw_5, List.forall_mem_cons.mpr ⟨fun _ => cw_6, List.forall_mem_cons.mpr ⟨fun _ => cw_7, List.forall_mem_cons.mpr ⟨fun _ => cw_8, List.forall_mem_cons.mpr ⟨fun _ => cw_9, List.forall_mem_cons.mpr ⟨fun _ => cw_10, List.forall_mem_cons.mpr ⟨fun _ => cw_11, List.forall_mem_cons.mpr ⟨fun _ => cw_12, List.forall_mem_cons.mpr ⟨fun _ => cw_13, List.forall_mem_cons.mpr ⟨fun _ => cw_14, List.forall_mem_cons.mpr ⟨fun _ => cw_15, List.forall_mem_cons.mpr ⟨fun _ => cw_16, List.forall_mem_cons.mpr ⟨fun _ => cw_17, List.forall_mem_cons.mpr ⟨fun _ => cw_18, List.forall_mem_cons.mpr ⟨fun _ => cw_19, fun _ h => absurd h List.not_mem_nil⟩⟩⟩⟩⟩⟩⟩⟩⟩⟩⟩⟩⟩⟩⟩⟩⟩⟩⟩⟩
theorem cwl_1 : ∀ q ∈ MT_1, q.2.2.2.2.2.2.1 ≠ 4 → mcw q ∈ GWL := List.forall_mem_cons.mpr ⟨fun _ => cw_20, List.forall_mem_cons.mpr ⟨fun _ => cw_21, List.forall_mem_cons.mpr ⟨fun _ => cw_22, List.forall_mem_cons.mpr ⟨fun _ => cw_23, List.forall_mem_cons.mpr ⟨fun _ => cw_24, List.forall_mem_cons.mpr ⟨fun _ => cw_25, List.forall_mem_cons.mpr ⟨fun _ => cw_26, List.forall_mem_cons.mpr ⟨fun _ => cw_27, List.forall_mem_cons.mpr ⟨fun _ => cw_28, List.forall_mem_cons.mpr ⟨fun _ => cw_29, List.forall_mem_cons.mpr ⟨fun _ => cw_30, List.forall_mem_cons.mpr ⟨fun _ => cw_31, List.forall_mem_cons.mpr ⟨fun _ => cw_32, List.forall_mem_cons.mpr ⟨fun _ => cw_33, List.forall_mem_cons.mpr ⟨fun _ => cw_34, List.forall_mem_cons.mpr ⟨fun _ => cw_35, List.forall_mem_cons.mpr ⟨fun _ => cw_36, List.forall_mem_cons.mpr ⟨fun _ => cw_37, List.forall_mem_cons.mpr ⟨fun _ => cw_38, List.forall_mem_cons.mpr ⟨fun _ => cw_39, fun _ h => absurd h List.not_mem_nil⟩⟩⟩⟩⟩⟩⟩⟩⟩⟩⟩⟩⟩⟩⟩⟩⟩⟩⟩⟩
theorem cwl_2 : ∀ q ∈ MT_2, q.2.2.2.2.2.2.1 ≠ 4 → mcw q ∈ GWL := List.forall_mem_cons.mpr ⟨fun _ => cw_40, List.forall_mem_cons.mpr ⟨fun _ => cw_41, List.forall_mem_cons.mpr ⟨fun _ => cw_42, List.forall_mem_cons.mpr ⟨fun _ => cw_43, List.forall_mem_cons.mpr ⟨fun _ => cw_44, List.forall_mem_cons.mpr ⟨fun _ => cw_45, List.forall_mem_cons.mpr ⟨fun _ => cw_46, List.forall_mem_cons.mpr ⟨fun _ => cw_47, List.forall_mem_cons.mpr ⟨fun _ => cw_48, List.forall_mem_cons.mpr ⟨fun _ => cw_49, List.forall_mem_cons.mpr ⟨fun _ => cw_50, List.forall_mem_cons.mpr ⟨fun _ => cw_51, List.forall_mem_cons.mpr ⟨fun _ => cw_52, List.forall_mem_cons.mpr ⟨fun _ => cw_53, List.forall_mem_cons.mpr ⟨fun _ => cw_54, List.forall_mem_cons.mpr ⟨fun _ => cw_55, List.forall_mem_cons.mpr ⟨fun _ => cw_56, List.forall_mem_cons.mpr ⟨fun _ => cw_57, List.forall_mem_cons.mpr ⟨fun _ => cw_58, List.forall_mem_cons.mpr ⟨fun _ => cw_59, fun _ h => absurd h List.not_mem_nil⟩⟩⟩⟩⟩⟩⟩⟩⟩⟩⟩⟩⟩⟩⟩⟩⟩⟩⟩⟩
theorem cwl_3 : ∀ q ∈ MT_3, q.2.2.2.2.2.2.1 ≠ 4 → mcw q ∈ GWL := List.forall_mem_cons.mpr ⟨fun _ => cw_60, List.forall_mem_cons.mpr ⟨fun _ => cw_61, List.forall_mem_cons.mpr ⟨fun _ => cw_62, List.forall_mem_cons.mpr ⟨fun _ => cw_63, List.forall_mem_cons.mpr ⟨fun _ => cw_64, List.forall_mem_cons.mpr ⟨fun _ => cw_65, List.forall_mem_cons.mpr ⟨fun _ => cw_66, List.forall_mem_cons.mpr ⟨fun _ => cw_67, List.forall_mem_cons.mpr ⟨fun _ => cw_68, List.forall_mem_cons.mpr ⟨fun _ => cw_69, List.forall_mem_cons.mpr ⟨fun _ => cw_70, List.forall_mem_cons.mpr ⟨fun _ => cw_71, List.forall_mem_cons.mpr ⟨fun _ => cw_72, List.forall_mem_cons.mpr ⟨fun _ => cw_73, List.forall_mem_cons.mpr ⟨fun _ => cw_74, List.forall_mem_cons.mpr ⟨fun _ => cw_75, List.forall_mem_cons.mpr ⟨fun _ => cw_76, List.forall_mem_cons.mpr ⟨fun _ => cw_77, List.forall_mem_cons.mpr ⟨fun _ => cw_78, List.forall_mem_cons.mpr ⟨fun _ => cw_79, fun _ h => absurd h List.not_mem_nil⟩⟩⟩⟩⟩⟩⟩⟩⟩⟩⟩⟩⟩⟩⟩⟩⟩⟩⟩⟩
theorem cwl_4 : ∀ q ∈ MT_4, q.2.2.2.2.2.2.1 ≠ 4 → mcw q ∈ GWL := List.forall_mem_cons.mpr ⟨fun _ => cw_80, List.forall_mem_cons.mpr ⟨fun _ => cw_81, List.forall_mem_cons.mpr ⟨fun _ => cw_82, List.forall_mem_cons.mpr ⟨fun _ => cw_83, List.forall_mem_cons.mpr ⟨fun _ => cw_84, List.forall_mem_cons.mpr ⟨fun _ => cw_85, List.forall_mem_cons.mpr ⟨fun _ => cw_86, List.forall_mem_cons.mpr ⟨fun _ => cw_87, List.forall_mem_cons.mpr ⟨fun _ => cw_88, List.forall_mem_cons.mpr ⟨fun _ => cw_89, List.forall_mem_cons.mpr ⟨fun _ => cw_90, List.forall_mem_cons.mpr ⟨fun _ => cw_91, List.forall_mem_cons.mpr ⟨fun _ => cw_92, List.forall_mem_cons.mpr ⟨fun _ => cw_93, List.forall_mem_cons.mpr ⟨fun _ => cw_94, List.forall_mem_cons.mpr ⟨fun _ => cw_95, List.forall_mem_cons.mpr ⟨fun _ => cw_96, List.forall_mem_cons.mpr ⟨fun _ => cw_97, List.forall_mem_cons.mpr ⟨fun _ => cw_98, List.forall_mem_cons.mpr ⟨fun _ => cw_99, fun _ h => absurd h List.not_mem_nil⟩⟩⟩⟩⟩⟩⟩⟩⟩⟩⟩⟩⟩⟩⟩⟩⟩⟩⟩⟩
theorem cwl_5 : ∀ q ∈ MT_5, q.2.2.2.2.2.2.1 ≠ 4 → mcw q ∈ GWL := List.forall_mem_cons.mpr ⟨fun _ => cw_100, List.forall_mem_cons.mpr ⟨fun _ => cw_101, List.forall_mem_cons.mpr ⟨fun _ => cw_102, List.forall_mem_cons.mpr ⟨fun _ => cw_103, List.forall_mem_cons.mpr ⟨fun _ => cw_104, List.forall_mem_cons.mpr ⟨fun _ => cw_105, List.forall_mem_cons.mpr ⟨fun _ => cw_106, List.forall_mem_cons.mpr ⟨fun _ => cw_107, List.forall_mem_cons.mpr ⟨fun _ => cw_108, List.forall_mem_cons.mpr ⟨fun _ => cw_109, List.forall_mem_cons.mpr ⟨fun _ => cw_110, List.forall_mem_cons.mpr ⟨fun _ => cw_111, List.forall_mem_cons.mpr ⟨fun _ => cw_112, List.forall_mem_cons.mpr ⟨fun _ => cw_113, List.forall_mem_cons.mpr ⟨fun _ => cw_114, List.forall_mem_cons.mpr ⟨fun _ => cw_115, List.forall_mem_cons.mpr ⟨fun _ => cw_116, List.forall_mem_cons.mpr ⟨fun _ => cw_117, List.forall_mem_cons.mpr ⟨fun _ => cw_118, List.forall_mem_cons.mpr ⟨fun _ => cw_119, fun _ h => absurd h List.not_mem_nil⟩⟩⟩⟩⟩⟩⟩⟩⟩⟩⟩⟩⟩⟩⟩⟩⟩⟩⟩⟩
theorem cwl_6 : ∀ q ∈ MT_6, q.2.2.2.2.2.2.1 ≠ 4 → mcw q ∈ GWL := List.forall_mem_cons.mpr ⟨fun _ => cw_120, List.forall_mem_cons.mpr ⟨fun _ => cw_121, List.forall_mem_cons.mpr ⟨fun _ => cw_122, List.forall_mem_cons.mpr ⟨fun _ => cw_123, List.forall_mem_cons.mpr ⟨fun _ => cw_124, List.forall_mem_cons.mpr ⟨fun _ => cw_125, List.forall_mem_cons.mpr ⟨fun _ => cw_126, List.forall_mem_cons.mpr ⟨fun _ => cw_127, List.forall_mem_cons.mpr ⟨fun _ => cw_128, List.forall_mem_cons.mpr ⟨fun _ => cw_129, List.forall_mem_cons.mpr ⟨fun _ => cw_130, List.forall_mem_cons.mpr ⟨fun _ => cw_131, List.forall_mem_cons.mpr ⟨fun _ => cw_132, List.forall_mem_cons.mpr ⟨fun _ => cw_133, List.forall_mem_cons.mpr ⟨fun _ => cw_134, List.forall_mem_cons.mpr ⟨fun _ => cw_135, List.forall_mem_cons.mpr ⟨fun _ => cw_136, List.forall_mem_cons.mpr ⟨fun _ => cw_137, List.forall_mem_cons.mpr ⟨fun _ => cw_138, List.forall_mem_cons.mpr ⟨fun _ => cw_139, fun _ h => absurd h List.not_mem_nil⟩⟩⟩⟩⟩⟩⟩⟩⟩⟩⟩⟩⟩⟩⟩⟩⟩⟩⟩⟩
theorem cwl_7 : ∀ q ∈ MT_7, q.2.2.2.2.2.2.1 ≠ 4 → mcw q ∈ GWL := List.forall_mem_cons.mpr ⟨fun _ => cw_140, List.forall_mem_cons.mpr ⟨fun _ => cw_141, List.forall_mem_cons.mpr ⟨fun _ => cw_142, List.forall_mem_cons.mpr ⟨fun _ => cw_143, List.forall_mem_cons.mpr ⟨fun _ => cw_144, List.forall_mem_cons.mpr ⟨fun _ => cw_145, List.forall_mem_cons.mpr ⟨fun _ => cw_146, List.forall_mem_cons.mpr ⟨fun _ => cw_147, List.forall_mem_cons.mpr ⟨fun _ => cw_148, List.forall_mem_cons.mpr ⟨fun _ => cw_149, List.forall_mem_cons.mpr ⟨fun _ => cw_150, List.forall_mem_cons.mpr ⟨fun _ => cw_151, List.forall_mem_cons.mpr ⟨fun _ => cw_152, List.forall_mem_cons.mpr ⟨fun _ => cw_153, List.forall_mem_cons.mpr ⟨fun _ => cw_154, List.forall_mem_cons.mpr ⟨fun _ => cw_155, List.forall_mem_cons.mpr ⟨fun _ => cw_156, List.forall_mem_cons.mpr ⟨fun _ => cw_157, List.forall_mem_cons.mpr ⟨fun _ => cw_158, List.forall_mem_cons.mpr ⟨fun _ => cw_159, fun _ h => absurd h List.not_mem_nil⟩⟩⟩⟩⟩⟩⟩⟩⟩⟩⟩⟩⟩⟩⟩⟩⟩⟩⟩⟩
theorem cwl_8 : ∀ q ∈ MT_8, q.2.2.2.2.2.2.1 ≠ 4 → mcw q ∈ GWL := List.forall_mem_cons.mpr ⟨fun _ => cw_160, List.forall_mem_cons.mpr ⟨fun _ => cw_161, List.forall_mem_cons.mpr ⟨fun _ => cw_162, List.forall_mem_cons.mpr ⟨fun _ => cw_163, List.forall_mem_cons.mpr ⟨fun _ => cw_164, List.forall_mem_cons.mpr ⟨fun _ => cw_165, List.forall_mem_cons.mpr ⟨fun _ => cw_166, List.forall_mem_cons.mpr ⟨fun _ => cw_167, List.forall_mem_cons.mpr ⟨fun _ => cw_168, List.forall_mem_cons.mpr ⟨fun _ => cw_169, List.forall_mem_cons.mpr ⟨fun _ => cw_170, List.forall_mem_cons.mpr ⟨fun _ => cw_171, List.forall_mem_cons.mpr ⟨fun _ => cw_172, List.forall_mem_cons.mpr ⟨fun _ => cw_173, List.forall_mem_cons.mpr ⟨fun _ => cw_174, List.forall_mem_cons.mpr ⟨fun _ => cw_175, List.forall_mem_cons.mpr ⟨fun _ => cw_176, List.forall_mem_cons.mpr ⟨fun _ => cw_177, List.forall_mem_cons.mpr ⟨fun _ => cw_178, List.forall_mem_cons.mpr ⟨fun _ => cw_179, fun _ h => absurd h List.not_mem_nil⟩⟩⟩⟩⟩⟩⟩⟩⟩⟩⟩⟩⟩⟩⟩⟩⟩⟩⟩⟩
theorem cwl_9 : ∀ q ∈ MT_9, q.2.2.2.2.2.2.1 ≠ 4 → mcw q ∈ GWL := List.forall_mem_cons.mpr ⟨fun _ => cw_180, List.forall_mem_cons.mpr ⟨fun _ => cw_181, List.forall_mem_cons.mpr ⟨fun _ => cw_182, List.forall_mem_cons.mpr ⟨fun _ => cw_183, List.forall_mem_cons.mpr ⟨fun _ => cw_184, List.forall_mem_cons.mpr ⟨fun _ => cw_185, List.forall_mem_cons.mpr ⟨fun _ => cw_186, List.forall_mem_cons.mpr ⟨fun _ => cw_187, List.forall_mem_cons.mpr ⟨fun _ => cw_188, List.forall_mem_cons.mpr ⟨fun _ => cw_189, List.forall_mem_cons.mpr ⟨fun _ => cw_190, List.forall_mem_cons.mpr ⟨fun _ => cw_191, List.forall_mem_cons.mpr ⟨fun _ => cw_192, List.forall_mem_cons.mpr ⟨fun _ => cw_193, List.forall_mem_cons.mpr ⟨fun _ => cw_194, List.forall_mem_cons.mpr ⟨fun _ => cw_195, List.forall_mem_cons.mpr ⟨fun _ => cw_196, List.forall_mem_cons.mpr ⟨fun _ => cw_197, List.forall_mem_cons.mpr ⟨fun _ => cw_198, List.forall_mem_cons.mpr ⟨fun _ => cw_199, fun _ h => absurd h List.not_mem_nil⟩⟩⟩⟩⟩⟩⟩⟩⟩⟩⟩⟩⟩⟩⟩⟩⟩⟩⟩⟩
theorem cwl_10 : ∀ q ∈ MT_10, q.2.2.2.2.2.2.1 ≠ 4 → mcw q ∈ GWL := List.forall_mem_cons.mpr ⟨fun _ => cw_200, List.forall_mem_cons.mpr ⟨fun _ => cw_201, List.forall_mem_cons.mpr ⟨fun _ => cw_202, List.forall_mem_cons.mpr ⟨fun _ => cw_203, List.forall_mem_cons.mpr ⟨fun _ => cw_204, List.forall_mem_cons.mpr ⟨fun _ => cw_205, List.forall_mem_cons.mpr ⟨fun _ => cw_206, List.forall_mem_cons.mpr ⟨fun _ => cw_207, List.forall_mem_cons.mpr ⟨fun _ => cw_208, List.forall_mem_cons.mpr ⟨fun _ => cw_209, List.forall_mem_cons.mpr ⟨fun _ => cw_210, List.forall_mem_cons.mpr ⟨fun _ => cw_211, List.forall_mem_cons.mpr ⟨fun _ => cw_212, List.forall_mem_cons.mpr ⟨fun _ => cw_213, List.forall_mem_cons.mpr ⟨fun _ => cw_214, List.forall_mem_cons.mpr ⟨fun _ => cw_215, List.forall_mem_cons.mpr ⟨fun _ => cw_216, List.forall_mem_cons.mpr ⟨fun _ => cw_217, List.forall_mem_cons.mpr ⟨fun _ => cw_218, List.forall_mem_cons.mpr ⟨fun _ => cw_219, fun _ h => absurd h List.not_mem_nil⟩⟩⟩⟩⟩⟩⟩⟩⟩⟩⟩⟩⟩⟩⟩⟩⟩⟩⟩⟩
theorem cwl_11 : ∀ q ∈ MT_11, q.2.2.2.2.2.2.1 ≠ 4 → mcw q ∈ GWL := List.forall_mem_cons.mpr ⟨fun _ => cw_220, List.forall_mem_cons.mpr ⟨fun _ => cw_221, List.forall_mem_cons.mpr ⟨fun _ => cw_222, List.forall_mem_cons.mpr ⟨fun _ => cw_223, List.forall_mem_cons.mpr ⟨fun _ => cw_224, List.forall_mem_cons.mpr ⟨fun _ => cw_225, List.forall_mem_cons.mpr ⟨fun _ => cw_226, List.forall_mem_cons.mpr ⟨fun _ => cw_227, List.forall_mem_cons.mpr ⟨fun _ => cw_228, List.forall_mem_cons.mpr ⟨fun _ => cw_229, List.forall_mem_cons.mpr ⟨fun _ => cw_230, List.forall_mem_cons.mpr ⟨fun _ => cw_231, List.forall_mem_cons.mpr ⟨fun _ => cw_232, List.forall_mem_cons.mpr ⟨fun _ => cw_233, List.forall_mem_cons.mpr ⟨fun _ => cw_234, List.forall_mem_cons.mpr ⟨fun _ => cw_235, List.forall_mem_cons.mpr ⟨fun _ => cw_236, List.forall_mem_cons.mpr ⟨fun _ => cw_237, List.forall_mem_cons.mpr ⟨fun _ => cw_238, List.forall_mem_cons.mpr ⟨fun _ => cw_239, fun _ h => absurd h List.not_mem_nil⟩⟩⟩⟩⟩⟩⟩⟩⟩⟩⟩⟩⟩⟩⟩⟩⟩⟩⟩⟩
theorem cwl_12 : ∀ q ∈ MT_12, q.2.2.2.2.2.2.1 ≠ 4 → mcw q ∈ GWL := List.forall_mem_cons.mpr ⟨fun _ => cw_240, List.forall_mem_cons.mpr ⟨fun _ => cw_241, List.forall_mem_cons.mpr ⟨fun _ => cw_242, List.forall_mem_cons.mpr ⟨fun _ => cw_243, List.forall_mem_cons.mpr ⟨fun _ => cw_244, List.forall_mem_cons.mpr ⟨fun _ => cw_245, List.forall_mem_cons.mpr ⟨fun _ => cw_246, List.forall_mem_cons.mpr ⟨fun _ => cw_247, List.forall_mem_cons.mpr ⟨fun _ => cw_248, List.forall_mem_cons.mpr ⟨fun _ => cw_249, List.forall_mem_cons.mpr ⟨fun _ => cw_250, List.forall_mem_cons.mpr ⟨fun _ => cw_251, List.forall_mem_cons.mpr ⟨fun _ => cw_252, List.forall_mem_cons.mpr ⟨fun _ => cw_253, List.forall_mem_cons.mpr ⟨fun _ => cw_254, List.forall_mem_cons.mpr ⟨fun _ => cw_255, List.forall_mem_cons.mpr ⟨fun _ => cw_256, List.forall_mem_cons.mpr ⟨fun h => absurd rfl h, fun _ h => absurd h List.not_mem_nil⟩⟩⟩⟩⟩⟩⟩⟩⟩⟩⟩⟩⟩⟩⟩⟩⟩⟩
theorem cw_all : ∀ q ∈ MT, q.2.2.2.2.2.2.1 ≠ 4 → mcw q ∈ GWL := List.forall_mem_append.mpr ⟨cwl_0, List.forall_mem_append.mpr ⟨cwl_1, List.forall_mem_append.mpr ⟨cwl_2, List.forall_mem_append.mpr ⟨cwl_3, List.forall_mem_append.mpr ⟨cwl_4, List.forall_mem_append.mpr ⟨cwl_5, List.forall_mem_append.mpr ⟨cwl_6, List.forall_mem_append.mpr ⟨cwl_7, List.forall_mem_append.mpr ⟨cwl_8, List.forall_mem_append.mpr ⟨cwl_9, List.forall_mem_append.mpr ⟨cwl_10, List.forall_mem_append.mpr ⟨cwl_11, cwl_12⟩⟩⟩⟩⟩⟩⟩⟩⟩⟩⟩⟩
theorem chkR_0 : MT_0.all chkR = true := by decide +kernel
theorem chkR_1 : MT_1.all chkR = true := by decide +kernel
theorem chkR_2 : MT_2.all chkR = true := by decide +kernel
theorem chkR_3 : MT_3.all chkR = true := by decide +kernel
theorem chkR_4 : MT_4.all chkR = true := by decide +kernel
theorem chkR_5 : MT_5.all chkR = true := by decide +kernel
theorem chkR_6 : MT_6.all chkR = true := by decide +kernel
theorem chkR_7 : MT_7.all chkR = true := by decide +kernel
theorem chkR_8 : MT_8.all chkR = true := by decide +kernel
theorem chkR_9 : MT_9.all chkR = true := by decide +kernel
theorem chkR_10 : MT_10.all chkR = true := by decide +kernel
theorem chkR_11 : MT_11.all chkR = true := by decide +kernel
theorem chkR_12 : MT_12.all chkR = true := by decide +kernel
