/-! what the Statement gives of the start: keywords, texts, digits -/
theorem pick {α β : Type} (P : α → β → Prop) : ∃ f : α → Option β, ∀ t, (∀ q, f t = some q → P t q) ∧ ((∃ q, P t q) → ∃ q, f t = some q) := by
  have h : ∀ t, ∃ o : Option β, (∀ q, o = some q → P t q) ∧ ((∃ q, P t q) → ∃ q, o = some q) := fun t => by
    by_cases c : ∃ q, P t q
    · obtain ⟨q, hq⟩ := c
      exact ⟨some q, fun q' e => by cases e; exact hq, fun _ => ⟨q, rfl⟩⟩
    · exact ⟨none, (fun q e => by cases e), fun z => absurd z c⟩
  exact ⟨fun t => Classical.choose (h t), fun t => Classical.choose_spec (h t)⟩
theorem ev_ref {args : Array Value} {s : State} {t u : Term} {a : Nat} (h : (Cond.eq t u).before args s = true) (hu : u.eval args s none [] s = some (.ref a)) : t.eval args s none [] s = some (.ref a) := by
  cases hv : t.eval args s none [] s with
  | none => simp [Cond.before, Cond.holds, Cond.value, hv] at h
  | some w =>
    simp only [Cond.before, Cond.holds, Cond.value, hv, hu] at h
    cases w <;> simp_all
theorem va_T_uni {ty ty' : FieldType} {t N N' : Nat} {f f' : Nat → Value} {A : Nat → Prop} {U : State} {H : Heap} (h : va_T ty t N f A U H) (h' : va_T ty' t N' f' A U H) (hN : N < 2 ^ 31) (hN' : N' < 2 ^ 31) : ty = ty' ∧ N = N' ∧ ∀ j, j < N → f j = f' j := by
  obtain ⟨cell, h1, ⟨-, k, h2, comp, h3⟩, -, -, h5, h6, -⟩ := h
  obtain ⟨cell', g1, ⟨-, k', g2, comp', g3⟩, -, -, g5, g6, -⟩ := h'
  cases h1.symm.trans g1
  cases h2.symm.trans g2
  have e := h3.symm.trans g3
  injection e with e1 e2
  have eN : N = N' := by
    have q := h5.symm.trans g5
    have q1 : (Int32.ofNat N).toInt = N := Int32.toInt_ofNat_of_lt hN
    have q2 : (Int32.ofNat N').toInt = N' := Int32.toInt_ofNat_of_lt hN'
    rw [q] at q1
    omega
  refine ⟨e2, eN, fun j hj => ?_⟩
  have q := (h6 j hj).symm.trans (g6 j (by omega))
  injection q
theorem va_OF_uni {o n d : String} {v v' : Value} {t : Nat} {A : Nat → Prop} {U : State} {H : Heap} (h : va_OF o n d v t A U H) (h' : va_OF o n d v' t A U H) : v = v' := by
  obtain ⟨cf, k, i, f, cell, h1, -, h3, -, h5, -⟩ := h
  obtain ⟨cf', k', i', f', cell', g1, -, g3, -, g5, -⟩ := h'
  have e := Option.some.inj (h1.symm.trans g1)
  injection e with e1 e2
  injection e2 with e2 e3
  injection e3 with e3 e4
  cases e4
  cases h3.symm.trans g3
  exact Option.some.inj (h5.symm.trans g5)
theorem va_O_nm {E F : String} {t : Nat} {A : Nat → Prop} {U : State} {H : Heap} (h : va_O E t A U H) (h' : va_O F t A U H) : E = F := by
  obtain ⟨cell, h1, -, h3, -⟩ := h
  obtain ⟨cell', g1, -, g3, -⟩ := h'
  cases h1.symm.trans g1
  obtain ⟨k, q1, q2⟩ := Vm.findClass_spec h3
  obtain ⟨k', r1, r2⟩ := Vm.findClass_spec g3
  cases q1.symm.trans r1
  exact q2.symm.trans r2
def KWN : List String := ["TERRACES_WORD", "RAIN_WORD", "LEVEL_WORD", "LOOK_WORD", "FROM_WORD", "TO_WORD", "WHEN_WORD", "DAY_WORD", "PUSHES_WORD", "WATER_WORD", "HIGHEST_WORD", "LOWEST_WORD", "WAITING_WORD", "HEIGHT_WORD", "NOT_WORD", "AND_WORD", "OR_WORD", "MIN_WORD", "MAX_WORD"]
def KSI : List Nat := [91, 97, 100, 103, 106, 109, 112, 115, 118, 121, 124, 127, 130, 133, 136, 139, 142, 145, 148]
def tmK (i : Nat) : Term := .static "TerraceRain$Keyword" (KWN.getD i "") "LTerraceRain$Keyword;"
def tmS (i : Nat) : Term := .string "TerraceRain$Keyword" (KSI.getD i 0)
def tmL (k : Nat) : Term := .string (LSX k).1 (LSX k).2.1
def tmKW : Term := .static "TerraceRain$Tokens" "KEYWORDS" "[LTerraceRain$Keyword;"
def tmD (n : String) : Term := .static "java/lang/Integer" n "[B"
def tmF (t : Term) : Term := .field t "java/lang/String" "value" "[B"
def wlW (i : Nat) : List Nat := (WL.getD i ([], 0)).1
def wlT (i : Nat) : Int32 := (WL.getD i ([], 0)).2
def FLW : List Cond := flatC (Cond.and given_1 narrow_1)
/-- a text's own words -/
def swA (t : Term) (w : List Nat) : List Cond := [.exactly t "java/lang/String", .eq (.field t "java/lang/String" "coder" "B") (.int 0), .arrayOf (tmF t) .byte, .eq (.length (tmF t)) (.int (Int32.ofNat w.length))] ++ (List.range w.length).map (fun j => .eq (.elem (tmF t) (.int (Int32.ofNat j))) (.int (Int32.ofNat (w.getD j 0))))
/-- a keyword's -/
def kwA (i : Nat) : List Cond := [.exactly (tmK i) "TerraceRain$Keyword", .eq (.field (tmK i) "TerraceRain$Keyword" "text" "Ljava/lang/String;") (tmS i), .eq (.field (tmK i) "TerraceRain$Keyword" "token" "I") (.int (wlT i)), .eq (.elem tmKW (.int (Int32.ofNat i))) (tmK i)] ++ swA (tmS i) (wlW i)
/-- a row of digits' -/
def dgA (n : String) (g : Nat → Nat) : List Cond := [.arrayOf (tmD n) .byte, .eq (.length (tmD n)) (.int 100)] ++ (List.range 100).map (fun j => .eq (.elem (tmD n) (.int (Int32.ofNat j))) (.int (Int32.ofNat (g j))))
/-- words that stand one behind another -/
def okP (p : Nat) (l : List Cond) : Bool := decide ((FLW.drop p).take l.length = l)
theorem okP_in {p : Nat} {l : List Cond} (h : okP p l = true) {w : Cond} (hw : w ∈ l) : w ∈ FLW := by
  have e := of_decide_eq_true h
  rw [← e] at hw
  exact List.mem_of_mem_drop (List.mem_of_mem_take hw)
def txP (k : Nat) : Nat := [693, 706, 711, 716, 725, 729, 737, 748, 758, 770, 781, 793, 798, 803, 808, 813, 821, 829, 834, 839, 844, 850, 856, 861, 872, 879, 884, 889, 894, 902, 907, 912, 919, 925, 935, 944, 953, 960, 965, 974].getD k 0
def ktP (k : Nat) : Nat := [980, 992, 1000, 1009, 1017, 1025, 1031, 1039, 1046, 1056, 1065, 1076, 1086, 1097, 1107, 1114, 1122, 1129, 1136].getD k 0
def kqP (k : Nat) : Nat := [241, 245, 250, 256, 263, 271, 280, 290, 301, 313, 326, 340, 355, 371, 388, 406, 425, 445, 466].getD k 0
def kwA1 (i : Nat) : List Cond := [.exactly (tmK i) "TerraceRain$Keyword"]
def kwA2 (i : Nat) : List Cond := [.eq (.field (tmK i) "TerraceRain$Keyword" "text" "Ljava/lang/String;") (tmS i), .eq (.field (tmK i) "TerraceRain$Keyword" "token" "I") (.int (wlT i))]
def kwAE : List Cond := (List.range 19).map (fun i => .eq (.elem tmKW (.int (Int32.ofNat i))) (tmK i))
theorem kw1_0 : okP (kqP 0) (kwA1 0) = true := by decide +kernel
theorem kw2_0 : okP (kqP 0 + 2) (kwA2 0) = true := by decide +kernel
theorem kw3_0 : okP (ktP 0) (swA (tmS 0) (wlW 0)) = true := by decide +kernel
theorem kw1_1 : okP (kqP 1) (kwA1 1) = true := by decide +kernel
theorem kw2_1 : okP (kqP 1 + 2) (kwA2 1) = true := by decide +kernel
theorem kw3_1 : okP (ktP 1) (swA (tmS 1) (wlW 1)) = true := by decide +kernel
theorem kw1_2 : okP (kqP 2) (kwA1 2) = true := by decide +kernel
theorem kw2_2 : okP (kqP 2 + 2) (kwA2 2) = true := by decide +kernel
theorem kw3_2 : okP (ktP 2) (swA (tmS 2) (wlW 2)) = true := by decide +kernel
theorem kw1_3 : okP (kqP 3) (kwA1 3) = true := by decide +kernel
theorem kw2_3 : okP (kqP 3 + 2) (kwA2 3) = true := by decide +kernel
theorem kw3_3 : okP (ktP 3) (swA (tmS 3) (wlW 3)) = true := by decide +kernel
theorem kw1_4 : okP (kqP 4) (kwA1 4) = true := by decide +kernel
theorem kw2_4 : okP (kqP 4 + 2) (kwA2 4) = true := by decide +kernel
theorem kw3_4 : okP (ktP 4) (swA (tmS 4) (wlW 4)) = true := by decide +kernel
theorem kw1_5 : okP (kqP 5) (kwA1 5) = true := by decide +kernel
theorem kw2_5 : okP (kqP 5 + 2) (kwA2 5) = true := by decide +kernel
theorem kw3_5 : okP (ktP 5) (swA (tmS 5) (wlW 5)) = true := by decide +kernel
theorem kw1_6 : okP (kqP 6) (kwA1 6) = true := by decide +kernel
theorem kw2_6 : okP (kqP 6 + 2) (kwA2 6) = true := by decide +kernel
theorem kw3_6 : okP (ktP 6) (swA (tmS 6) (wlW 6)) = true := by decide +kernel
theorem kw1_7 : okP (kqP 7) (kwA1 7) = true := by decide +kernel
theorem kw2_7 : okP (kqP 7 + 2) (kwA2 7) = true := by decide +kernel
theorem kw3_7 : okP (ktP 7) (swA (tmS 7) (wlW 7)) = true := by decide +kernel
theorem kw1_8 : okP (kqP 8) (kwA1 8) = true := by decide +kernel
theorem kw2_8 : okP (kqP 8 + 2) (kwA2 8) = true := by decide +kernel
theorem kw3_8 : okP (ktP 8) (swA (tmS 8) (wlW 8)) = true := by decide +kernel
theorem kw1_9 : okP (kqP 9) (kwA1 9) = true := by decide +kernel
theorem kw2_9 : okP (kqP 9 + 2) (kwA2 9) = true := by decide +kernel
theorem kw3_9 : okP (ktP 9) (swA (tmS 9) (wlW 9)) = true := by decide +kernel
theorem kw1_10 : okP (kqP 10) (kwA1 10) = true := by decide +kernel
theorem kw2_10 : okP (kqP 10 + 2) (kwA2 10) = true := by decide +kernel
theorem kw3_10 : okP (ktP 10) (swA (tmS 10) (wlW 10)) = true := by decide +kernel
theorem kw1_11 : okP (kqP 11) (kwA1 11) = true := by decide +kernel
theorem kw2_11 : okP (kqP 11 + 2) (kwA2 11) = true := by decide +kernel
theorem kw3_11 : okP (ktP 11) (swA (tmS 11) (wlW 11)) = true := by decide +kernel
theorem kw1_12 : okP (kqP 12) (kwA1 12) = true := by decide +kernel
theorem kw2_12 : okP (kqP 12 + 2) (kwA2 12) = true := by decide +kernel
theorem kw3_12 : okP (ktP 12) (swA (tmS 12) (wlW 12)) = true := by decide +kernel
theorem kw1_13 : okP (kqP 13) (kwA1 13) = true := by decide +kernel
theorem kw2_13 : okP (kqP 13 + 2) (kwA2 13) = true := by decide +kernel
theorem kw3_13 : okP (ktP 13) (swA (tmS 13) (wlW 13)) = true := by decide +kernel
theorem kw1_14 : okP (kqP 14) (kwA1 14) = true := by decide +kernel
theorem kw2_14 : okP (kqP 14 + 2) (kwA2 14) = true := by decide +kernel
theorem kw3_14 : okP (ktP 14) (swA (tmS 14) (wlW 14)) = true := by decide +kernel
theorem kw1_15 : okP (kqP 15) (kwA1 15) = true := by decide +kernel
theorem kw2_15 : okP (kqP 15 + 2) (kwA2 15) = true := by decide +kernel
theorem kw3_15 : okP (ktP 15) (swA (tmS 15) (wlW 15)) = true := by decide +kernel
theorem kw1_16 : okP (kqP 16) (kwA1 16) = true := by decide +kernel
theorem kw2_16 : okP (kqP 16 + 2) (kwA2 16) = true := by decide +kernel
theorem kw3_16 : okP (ktP 16) (swA (tmS 16) (wlW 16)) = true := by decide +kernel
theorem kw1_17 : okP (kqP 17) (kwA1 17) = true := by decide +kernel
theorem kw2_17 : okP (kqP 17 + 2) (kwA2 17) = true := by decide +kernel
theorem kw3_17 : okP (ktP 17) (swA (tmS 17) (wlW 17)) = true := by decide +kernel
theorem kw1_18 : okP (kqP 18) (kwA1 18) = true := by decide +kernel
theorem kw2_18 : okP (kqP 18 + 2) (kwA2 18) = true := by decide +kernel
theorem kw3_18 : okP (ktP 18) (swA (tmS 18) (wlW 18)) = true := by decide +kernel
theorem kwE : okP 16 kwAE = true := by decide +kernel
theorem lsA_0 : okP (txP 0) (swA (tmL 0) (lsb 0)) = true := by decide +kernel
theorem lsA_1 : okP (txP 1) (swA (tmL 1) (lsb 1)) = true := by decide +kernel
theorem lsA_2 : okP (txP 2) (swA (tmL 2) (lsb 2)) = true := by decide +kernel
theorem lsA_3 : okP (txP 3) (swA (tmL 3) (lsb 3)) = true := by decide +kernel
theorem lsA_4 : okP (txP 4) (swA (tmL 4) (lsb 4)) = true := by decide +kernel
theorem lsA_5 : okP (txP 5) (swA (tmL 5) (lsb 5)) = true := by decide +kernel
theorem lsA_6 : okP (txP 6) (swA (tmL 6) (lsb 6)) = true := by decide +kernel
theorem lsA_7 : okP (txP 7) (swA (tmL 7) (lsb 7)) = true := by decide +kernel
theorem lsA_8 : okP (txP 8) (swA (tmL 8) (lsb 8)) = true := by decide +kernel
theorem lsA_9 : okP (txP 9) (swA (tmL 9) (lsb 9)) = true := by decide +kernel
theorem lsA_10 : okP (txP 10) (swA (tmL 10) (lsb 10)) = true := by decide +kernel
theorem lsA_11 : okP (txP 11) (swA (tmL 11) (lsb 11)) = true := by decide +kernel
theorem lsA_12 : okP (txP 12) (swA (tmL 12) (lsb 12)) = true := by decide +kernel
theorem lsA_13 : okP (txP 13) (swA (tmL 13) (lsb 13)) = true := by decide +kernel
theorem lsA_14 : okP (txP 14) (swA (tmL 14) (lsb 14)) = true := by decide +kernel
theorem lsA_15 : okP (txP 15) (swA (tmL 15) (lsb 15)) = true := by decide +kernel
theorem lsA_16 : okP (txP 16) (swA (tmL 16) (lsb 16)) = true := by decide +kernel
theorem lsA_17 : okP (txP 17) (swA (tmL 17) (lsb 17)) = true := by decide +kernel
theorem lsA_18 : okP (txP 18) (swA (tmL 18) (lsb 18)) = true := by decide +kernel
theorem lsA_19 : okP (txP 19) (swA (tmL 19) (lsb 19)) = true := by decide +kernel
theorem lsA_20 : okP (txP 20) (swA (tmL 20) (lsb 20)) = true := by decide +kernel
theorem lsA_21 : okP (txP 21) (swA (tmL 21) (lsb 21)) = true := by decide +kernel
theorem lsA_22 : okP (txP 22) (swA (tmL 22) (lsb 22)) = true := by decide +kernel
theorem lsA_23 : okP (txP 23) (swA (tmL 23) (lsb 23)) = true := by decide +kernel
theorem lsA_24 : okP (txP 24) (swA (tmL 24) (lsb 24)) = true := by decide +kernel
theorem lsA_25 : okP (txP 25) (swA (tmL 25) (lsb 25)) = true := by decide +kernel
theorem lsA_26 : okP (txP 26) (swA (tmL 26) (lsb 26)) = true := by decide +kernel
theorem lsA_27 : okP (txP 27) (swA (tmL 27) (lsb 27)) = true := by decide +kernel
theorem lsA_28 : okP (txP 28) (swA (tmL 28) (lsb 28)) = true := by decide +kernel
theorem lsA_29 : okP (txP 29) (swA (tmL 29) (lsb 29)) = true := by decide +kernel
theorem lsA_30 : okP (txP 30) (swA (tmL 30) (lsb 30)) = true := by decide +kernel
theorem lsA_31 : okP (txP 31) (swA (tmL 31) (lsb 31)) = true := by decide +kernel
theorem lsA_32 : okP (txP 32) (swA (tmL 32) (lsb 32)) = true := by decide +kernel
theorem lsA_33 : okP (txP 33) (swA (tmL 33) (lsb 33)) = true := by decide +kernel
theorem lsA_34 : okP (txP 34) (swA (tmL 34) (lsb 34)) = true := by decide +kernel
theorem lsA_35 : okP (txP 35) (swA (tmL 35) (lsb 35)) = true := by decide +kernel
theorem lsA_36 : okP (txP 36) (swA (tmL 36) (lsb 36)) = true := by decide +kernel
theorem lsA_37 : okP (txP 37) (swA (tmL 37) (lsb 37)) = true := by decide +kernel
theorem lsA_38 : okP (txP 38) (swA (tmL 38) (lsb 38)) = true := by decide +kernel
theorem lsA_39 : okP (txP 39) (swA (tmL 39) (lsb 39)) = true := by decide +kernel
theorem dgA_1 : okP 36 (dgA "DigitOnes" (fun j => 48 + j % 10)) = true := by decide +kernel
theorem dgA_2 : okP 139 (dgA "DigitTens" (fun j => 48 + j / 10)) = true := by decide +kernel
theorem kwA_in {i : Nat} (hi : i < 19) : ∀ w ∈ kwA i, w ∈ FLW := by
  have key : okP (kqP i) (kwA1 i) = true ∧ okP (kqP i + 2) (kwA2 i) = true ∧ okP (ktP i) (swA (tmS i) (wlW i)) = true := by
    match i, hi with
    | 0, _ => exact ⟨kw1_0, kw2_0, kw3_0⟩
    | 1, _ => exact ⟨kw1_1, kw2_1, kw3_1⟩
    | 2, _ => exact ⟨kw1_2, kw2_2, kw3_2⟩
    | 3, _ => exact ⟨kw1_3, kw2_3, kw3_3⟩
    | 4, _ => exact ⟨kw1_4, kw2_4, kw3_4⟩
    | 5, _ => exact ⟨kw1_5, kw2_5, kw3_5⟩
    | 6, _ => exact ⟨kw1_6, kw2_6, kw3_6⟩
    | 7, _ => exact ⟨kw1_7, kw2_7, kw3_7⟩
    | 8, _ => exact ⟨kw1_8, kw2_8, kw3_8⟩
    | 9, _ => exact ⟨kw1_9, kw2_9, kw3_9⟩
    | 10, _ => exact ⟨kw1_10, kw2_10, kw3_10⟩
    | 11, _ => exact ⟨kw1_11, kw2_11, kw3_11⟩
    | 12, _ => exact ⟨kw1_12, kw2_12, kw3_12⟩
    | 13, _ => exact ⟨kw1_13, kw2_13, kw3_13⟩
    | 14, _ => exact ⟨kw1_14, kw2_14, kw3_14⟩
    | 15, _ => exact ⟨kw1_15, kw2_15, kw3_15⟩
    | 16, _ => exact ⟨kw1_16, kw2_16, kw3_16⟩
    | 17, _ => exact ⟨kw1_17, kw2_17, kw3_17⟩
    | 18, _ => exact ⟨kw1_18, kw2_18, kw3_18⟩
    | n + 19, h => omega
  intro w hw
  rcases List.mem_append.mp hw with hw | hw
  · simp only [List.mem_cons, List.not_mem_nil, or_false] at hw
    rcases hw with rfl | rfl | rfl | rfl
    · exact okP_in key.1 (by simp [kwA1])
    · exact okP_in key.2.1 (by simp [kwA2])
    · exact okP_in key.2.1 (by simp [kwA2])
    · exact okP_in kwE (List.mem_map.mpr ⟨i, List.mem_range.mpr hi, rfl⟩)
  · exact okP_in key.2.2 hw
theorem lsA_at {i : Nat} (hi : i < 40) : okP (txP i) (swA (tmL i) (lsb i)) = true := by
  match i, hi with
  | 0, _ => exact lsA_0
  | 1, _ => exact lsA_1
  | 2, _ => exact lsA_2
  | 3, _ => exact lsA_3
  | 4, _ => exact lsA_4
  | 5, _ => exact lsA_5
  | 6, _ => exact lsA_6
  | 7, _ => exact lsA_7
  | 8, _ => exact lsA_8
  | 9, _ => exact lsA_9
  | 10, _ => exact lsA_10
  | 11, _ => exact lsA_11
  | 12, _ => exact lsA_12
  | 13, _ => exact lsA_13
  | 14, _ => exact lsA_14
  | 15, _ => exact lsA_15
  | 16, _ => exact lsA_16
  | 17, _ => exact lsA_17
  | 18, _ => exact lsA_18
  | 19, _ => exact lsA_19
  | 20, _ => exact lsA_20
  | 21, _ => exact lsA_21
  | 22, _ => exact lsA_22
  | 23, _ => exact lsA_23
  | 24, _ => exact lsA_24
  | 25, _ => exact lsA_25
  | 26, _ => exact lsA_26
  | 27, _ => exact lsA_27
  | 28, _ => exact lsA_28
  | 29, _ => exact lsA_29
  | 30, _ => exact lsA_30
  | 31, _ => exact lsA_31
  | 32, _ => exact lsA_32
  | 33, _ => exact lsA_33
  | 34, _ => exact lsA_34
  | 35, _ => exact lsA_35
  | 36, _ => exact lsA_36
  | 37, _ => exact lsA_37
  | 38, _ => exact lsA_38
  | 39, _ => exact lsA_39
  | n + 40, h => omega
def okW (l : List Cond) : Bool := l.all (fun w => decide (w ∈ FLW))
theorem okW_in {l : List Cond} (h : okW l = true) {w : Cond} (hw : w ∈ l) : w ∈ FLW := of_decide_eq_true (List.all_eq_true.mp h w hw)
def nwB : List Cond := [.arrayOf tmKW (.object "TerraceRain$Keyword"), .eq (.length tmKW) (.int 19), .eq (.static "java/lang/String" "COMPACT_STRINGS" "Z") (.int 1), .isRef (.static "jdk/internal/util/Preconditions" "SIOOBE_FORMATTER" "Ljava/util/function/BiFunction;"), .isRef (.static "java/lang/Throwable" "UNASSIGNED_STACK" "[Ljava/lang/StackTraceElement;"), .isRef (.static "java/lang/Throwable" "SUPPRESSED_SENTINEL" "Ljava/util/List;"), .exactly (.string "TerraceRain" 73) "java/lang/String", .exactly (.string "TerraceRain" 83) "java/lang/String", .exactly (.string "TerraceRain" 244) "java/lang/String", .exactly (.string "TerraceRain" 156) "java/lang/String", .exactly (.string "TerraceRain" 247) "java/lang/String", .exactly (.string "TerraceRain" 249) "java/lang/String"]
theorem nwB_all : okW nwB = true := by decide +kernel
theorem nwB_in {w : Cond} (k : Nat) (hw : nwB[k]? = some w) : w ∈ FLW := okW_in nwB_all (List.mem_of_getElem? hw)
