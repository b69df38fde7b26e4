/-! what the Statement gives of the start: the keywords, their words, the rows of both -/
theorem pick {α β : Type} (P : α → β → Prop) : ∃ f : α → Option β, ∀ t, (∀ q, f t = some q → P t q) ∧ ((∃ q, P t q) → ∃ q, f t = some q) := by
  have h : ∀ t, ∃ o : Option β, (∀ q, o = some q → P t q) ∧ ((∃ q, P t q) → ∃ q, o = some q) := fun t => by
    by_cases c : ∃ q, P t q
    · obtain ⟨q, hq⟩ := c
      exact ⟨some q, fun q' e => by cases e; exact hq, fun _ => ⟨q, rfl⟩⟩
    · exact ⟨none, (fun q e => by cases e), fun z => absurd z c⟩
  exact ⟨fun t => Classical.choose (h t), fun t => Classical.choose_spec (h t)⟩
theorem ev_ref {args : Array Value} {s : State} {t u : Term} {a : Nat} (h : (Cond.eq t u).before args s = true) (hu : u.eval args s none [] s = some (.ref a)) : t.eval args s none [] s = some (.ref a) := by
  cases hv : t.eval args s none [] s with
  | none => simp [Cond.before, Cond.holds, Cond.value, hv] at h
  | some w =>
    simp only [Cond.before, Cond.holds, Cond.value, hv, hu] at h
    cases w <;> simp_all
theorem va_T_uni {ty ty' : FieldType} {t N N' : Nat} {f f' : Nat → Value} {A : Nat → Prop} {U : State} {H : Heap} (h : va_T ty t N f A U H) (h' : va_T ty' t N' f' A U H) (hN : N < 2 ^ 31) (hN' : N' < 2 ^ 31) : ty = ty' ∧ N = N' ∧ ∀ j, j < N → f j = f' j := by
  obtain ⟨cell, h1, ⟨-, k, h2, comp, h3⟩, -, -, h5, h6, -⟩ := h
  obtain ⟨cell', g1, ⟨-, k', g2, comp', g3⟩, -, -, g5, g6, -⟩ := h'
  cases h1.symm.trans g1
  cases h2.symm.trans g2
  have e := h3.symm.trans g3
  injection e with e1 e2
  have eN : N = N' := by
    have q := h5.symm.trans g5
    have q1 : (Int32.ofNat N).toInt = N := Int32.toInt_ofNat_of_lt hN
    have q2 : (Int32.ofNat N').toInt = N' := Int32.toInt_ofNat_of_lt hN'
    rw [q] at q1
    omega
  refine ⟨e2, eN, fun j hj => ?_⟩
  have q := (h6 j hj).symm.trans (g6 j (by omega))
  injection q
theorem va_OF_uni {o n d : String} {v v' : Value} {t : Nat} {A : Nat → Prop} {U : State} {H : Heap} (h : va_OF o n d v t A U H) (h' : va_OF o n d v' t A U H) : v = v' := by
  obtain ⟨cf, k, i, f, cell, h1, -, h3, -, h5, -⟩ := h
  obtain ⟨cf', k', i', f', cell', g1, -, g3, -, g5, -⟩ := h'
  have e := Option.some.inj (h1.symm.trans g1)
  injection e with e1 e2
  injection e2 with e2 e3
  injection e3 with e3 e4
  cases e4
  cases h3.symm.trans g3
  exact Option.some.inj (h5.symm.trans g5)
theorem va_O_nm {E F : String} {t : Nat} {A : Nat → Prop} {U : State} {H : Heap} (h : va_O E t A U H) (h' : va_O F t A U H) : E = F := by
  obtain ⟨cell, h1, -, h3, -⟩ := h
  obtain ⟨cell', g1, -, g3, -⟩ := h'
  cases h1.symm.trans g1
  obtain ⟨k, q1, q2⟩ := Vm.findClass_spec h3
  obtain ⟨k', r1, r2⟩ := Vm.findClass_spec g3
  cases q1.symm.trans r1
  exact q2.symm.trans r2
def KWN : List String := ["TERRACES_WORD", "RAIN_WORD", "LEVEL_WORD", "LOOK_WORD", "FROM_WORD", "TO_WORD", "WHEN_WORD", "DAY_WORD", "PUSHES_WORD", "WATER_WORD", "HIGHEST_WORD", "LOWEST_WORD", "WAITING_WORD", "HEIGHT_WORD", "NOT_WORD", "AND_WORD", "OR_WORD", "MIN_WORD", "MAX_WORD"]
def KSI : List Nat := [91, 97, 100, 103, 106, 109, 112, 115, 118, 121, 124, 127, 130, 133, 136, 139, 142, 145, 148]
def KMI : List Nat := [377, 378, 379, 380, 382, 383, 385, 387, 389, 390, 391, 393, 395, 396, 397, 399, 401, 403, 404]
def tmK (i : Nat) : Term := .static "TerraceRain$Keyword" (KWN.getD i "") "LTerraceRain$Keyword;"
def tmS (i : Nat) : Term := .string "TerraceRain$Keyword" (KSI.getD i 0)
def tmM (i : Nat) : Term := .string "TerraceRainModel" (KMI.getD i 0)
def tmKW : Term := .static "TerraceRain$Tokens" "KEYWORDS" "[LTerraceRain$Keyword;"
def tmWD : Term := .static "TerraceRainModel" "WORDS" "[Ljava/lang/String;"
def tmV (i : Nat) : Term := .field (tmS i) "java/lang/String" "value" "[B"
def wlW (i : Nat) : List Nat := (WL.getD i ([], 0)).1
def wlT (i : Nat) : Int32 := (WL.getD i ([], 0)).2
def FLW : List Cond := flatC (Cond.and given_1 narrow_1)
def nwA (i : Nat) : List Cond := [.exactly (tmK i) "TerraceRain$Keyword", .eq (.field (tmK i) "TerraceRain$Keyword" "text" "Ljava/lang/String;") (tmS i), .eq (.field (tmK i) "TerraceRain$Keyword" "token" "I") (.int (wlT i)), .exactly (tmS i) "java/lang/String", .eq (.field (tmS i) "java/lang/String" "coder" "B") (.int 0), .arrayOf (tmV i) .byte, .eq (.length (tmV i)) (.int (Int32.ofNat (wlW i).length)), .eq (.elem tmKW (.int (Int32.ofNat i))) (tmK i), .eq (.elem tmWD (.int (Int32.ofNat i))) (tmM i), .eq (tmM i) (tmS i)] ++ (List.range (wlW i).length).map (fun j => .eq (.elem (tmV i) (.int (Int32.ofNat j))) (.int (Int32.ofNat ((wlW i).getD j 0))))
theorem nwA_0 : (nwA 0).all (fun w => decide (w ∈ FLW)) = true := by decide +kernel
theorem nwA_1 : (nwA 1).all (fun w => decide (w ∈ FLW)) = true := by decide +kernel
theorem nwA_2 : (nwA 2).all (fun w => decide (w ∈ FLW)) = true := by decide +kernel
theorem nwA_3 : (nwA 3).all (fun w => decide (w ∈ FLW)) = true := by decide +kernel
theorem nwA_4 : (nwA 4).all (fun w => decide (w ∈ FLW)) = true := by decide +kernel
theorem nwA_5 : (nwA 5).all (fun w => decide (w ∈ FLW)) = true := by decide +kernel
theorem nwA_6 : (nwA 6).all (fun w => decide (w ∈ FLW)) = true := by decide +kernel
theorem nwA_7 : (nwA 7).all (fun w => decide (w ∈ FLW)) = true := by decide +kernel
theorem nwA_8 : (nwA 8).all (fun w => decide (w ∈ FLW)) = true := by decide +kernel
theorem nwA_9 : (nwA 9).all (fun w => decide (w ∈ FLW)) = true := by decide +kernel
theorem nwA_10 : (nwA 10).all (fun w => decide (w ∈ FLW)) = true := by decide +kernel
theorem nwA_11 : (nwA 11).all (fun w => decide (w ∈ FLW)) = true := by decide +kernel
theorem nwA_12 : (nwA 12).all (fun w => decide (w ∈ FLW)) = true := by decide +kernel
theorem nwA_13 : (nwA 13).all (fun w => decide (w ∈ FLW)) = true := by decide +kernel
theorem nwA_14 : (nwA 14).all (fun w => decide (w ∈ FLW)) = true := by decide +kernel
theorem nwA_15 : (nwA 15).all (fun w => decide (w ∈ FLW)) = true := by decide +kernel
theorem nwA_16 : (nwA 16).all (fun w => decide (w ∈ FLW)) = true := by decide +kernel
theorem nwA_17 : (nwA 17).all (fun w => decide (w ∈ FLW)) = true := by decide +kernel
theorem nwA_18 : (nwA 18).all (fun w => decide (w ∈ FLW)) = true := by decide +kernel
theorem nwA_at {i : Nat} (hi : i < 19) : (nwA i).all (fun w => decide (w ∈ FLW)) = true := by
  match i, hi with
  | 0, _ => exact nwA_0
  | 1, _ => exact nwA_1
  | 2, _ => exact nwA_2
  | 3, _ => exact nwA_3
  | 4, _ => exact nwA_4
  | 5, _ => exact nwA_5
  | 6, _ => exact nwA_6
  | 7, _ => exact nwA_7
  | 8, _ => exact nwA_8
  | 9, _ => exact nwA_9
  | 10, _ => exact nwA_10
  | 11, _ => exact nwA_11
  | 12, _ => exact nwA_12
  | 13, _ => exact nwA_13
  | 14, _ => exact nwA_14
  | 15, _ => exact nwA_15
  | 16, _ => exact nwA_16
  | 17, _ => exact nwA_17
  | 18, _ => exact nwA_18
  | n + 19, h => omega
theorem nwA_in {i : Nat} (hi : i < 19) {w : Cond} (hw : w ∈ nwA i) : w ∈ FLW := of_decide_eq_true (List.all_eq_true.mp (nwA_at hi) w hw)
def nwB : List Cond := [.arrayOf tmKW (.object "TerraceRain$Keyword"), .eq (.length tmKW) (.int 19), .arrayOf tmWD (.object "java/lang/String"), .eq (.length tmWD) (.int 19), .eq (.static "java/lang/String" "COMPACT_STRINGS" "Z") (.int 1), .isRef (.static "jdk/internal/util/Preconditions" "SIOOBE_FORMATTER" "Ljava/util/function/BiFunction;"), .isRef (.static "java/lang/Throwable" "UNASSIGNED_STACK" "[Ljava/lang/StackTraceElement;"), .isRef (.static "java/lang/Throwable" "SUPPRESSED_SENTINEL" "Ljava/util/List;"), .not (.castable (excN 0) (excN 1)), .not (.castable (excN 0) (excN 2)), .not (.castable (excN 1) (excN 0)), .not (.castable (excN 1) (excN 2)), .not (.castable (excN 2) (excN 0)), .not (.castable (excN 2) (excN 1)), .exactly (.string "TerraceRain" 73) "java/lang/String", .exactly (.string "TerraceRain" 83) "java/lang/String", .exactly (.string "TerraceRain" 244) "java/lang/String", .exactly (.string "TerraceRain" 156) "java/lang/String", .exactly (.string "TerraceRain" 247) "java/lang/String", .exactly (.string "TerraceRain" 249) "java/lang/String"]
theorem nwB_all : nwB.all (fun w => decide (w ∈ FLW)) = true := by decide +kernel
theorem nwB_in {w : Cond} (k : Nat) (hw : nwB[k]? = some w) : w ∈ FLW := of_decide_eq_true (List.all_eq_true.mp nwB_all w (List.mem_of_getElem? hw))
theorem wl_ok : (List.range 19).all (fun i => decide ((wlW i).length < 100) && (wlW i).all (fun c => decide (c < 128))) = true := by decide +kernel
theorem wl_at {i : Nat} {w : List Nat} {t : Int32} (h : WL[i]? = some (w, t)) : i < 19 ∧ wlW i = w ∧ wlT i = t ∧ w.length < 100 ∧ ∀ c ∈ w, c < 128 := by
  have hi : i < 19 := (List.getElem?_eq_some_iff.mp h).1
  have e1 : wlW i = w := by unfold wlW; rw [List.getD_eq_getElem?_getD, h]; rfl
  have e2 : wlT i = t := by unfold wlT; rw [List.getD_eq_getElem?_getD, h]; rfl
  have q := List.all_eq_true.mp wl_ok i (List.mem_range.mpr hi)
  simp only [Bool.and_eq_true, decide_eq_true_eq] at q
  rw [e1] at q
  exact ⟨hi, e1, e2, q.1, fun c hc => of_decide_eq_true (List.all_eq_true.mp q.2 c hc)⟩
theorem tag_uni {a a' : Nat} (h : a = 0 ∨ a = 2 ∨ a = 5 ∨ a = 6) (h' : a' = 0 ∨ a' = 2 ∨ a' = 5 ∨ a' = 6) (e : tyTag a = tyTag a') : a = a' := by
  rcases h with rfl | rfl | rfl | rfl <;> rcases h' with rfl | rfl | rfl | rfl <;> first | rfl | exact absurd e (by decide)
theorem vxZq_of {args : Array Value} {s : State} {C n d : String} {A : Nat → Prop} (hl : (Cond.laysStatic C n d).before args s = true) (hini : (Cond.initialized C).before args s = true) (h : (Cond.isRef (.static C n d)).before args s = true) (hA : ∀ a : Nat, a < s.heap.size → ¬ A a) : vx_Zq C n d A s s.heap := by
  refine ⟨va_Zqof hl hini h hA, ?_⟩
  obtain ⟨c, k, i, f, a, cell, h1, h2, h3, h4, h5, h6, h7, h8, h9⟩ := Cond.laysStatic_spec hl
  exact ⟨c, k, i, f, a, cell, h1, h2, h3, h4, h5, h6, h7, h8, h9, hA a (Array.getElem?_eq_some_iff.mp h5).1⟩
theorem env_at {s : State} {b L : Nat} {xs : Nat → Int32} (hts : ∀ w ∈ lw_tbl, w.before #[Value.ref b] s = true) (hX : va_X b L xs s s.heap) (hgv : (Jvm.Cond.and given_1 narrow_1).before #[Value.ref b] s = true) (hL : L ≤ 3072) : ∃ E : MEnv, EOK E (mA (fun _ => none) s.heap.size) s s.heap ∧ KW E (fun _ => none) ∧ RW E (fun _ => none) ∧ ∃ f, E.2.1 b = some (0, L, f) ∧ ∀ j, j < L → f j = .int (xs j) := by
  have hA : ∀ a : Nat, a < s.heap.size → ¬ mA (fun _ => none) s.heap.size a := fun a ha h => h.elim (fun z => z rfl) (fun z => absurd ha (Nat.not_lt.mpr z))
  generalize mA (fun _ => none) s.heap.size = A at *
  have hF : ∀ w ∈ FLW, w.before #[Value.ref b] s = true := flat_of_before _ hgv
  have hN : ∀ {i : Nat}, i < 19 → ∀ (k : Nat) {w : Cond}, (nwA i)[k]? = some w → w.before #[Value.ref b] s = true := fun hi k w hw => hF _ (nwA_in hi (List.mem_of_getElem? hw))
  have hB : ∀ (k : Nat) {w : Cond}, nwB[k]? = some w → w.before #[Value.ref b] s = true := fun k w hw => hF _ (nwB_in k hw)
  have hEl : ∀ {i : Nat}, i < 19 → ∀ j, j < (wlW i).length → (Cond.eq (.elem (tmV i) (.int (Int32.ofNat j))) (.int (Int32.ofNat ((wlW i).getD j 0)))).before #[Value.ref b] s = true := fun hi j hj => hF _ (nwA_in hi (List.mem_append_right _ (List.mem_map.mpr ⟨j, List.mem_range.mpr hj, rfl⟩)))
  have h100 : ∀ {i : Nat}, i < 19 → (wlW i).length < 100 := fun hi => by
    have q := List.all_eq_true.mp wl_ok _ (List.mem_range.mpr hi)
    simp only [Bool.and_eq_true, decide_eq_true_eq] at q
    exact q.1
  have hS : ∀ i : Nat, ∃ q : Nat × Nat, i < 19 → (tmS i).eval #[Value.ref b] s none [] s = some (.ref q.1) ∧ va_O "java/lang/String" q.1 A s s.heap ∧ va_OF "java/lang/String" "coder" "B" (.int 0) q.1 A s s.heap ∧ va_OF "java/lang/String" "value" "[B" (.ref q.2) q.1 A s s.heap ∧ va_T .byte q.2 (wlW i).length (fun j => .int (Int32.ofNat ((wlW i).getD j 0))) A s s.heap := by
    intro i
    by_cases hi : i < 19
    · have hex : (Cond.exactly (tmS i) "java/lang/String").before #[Value.ref b] s = true := hN hi 3 rfl
      obtain ⟨a, c, cA, kA, q1, -⟩ := Cond.exactly_spec (args := #[Value.ref b]) (first := s) (o := none) (s := s) (idx := []) (t := tmS i) (cls := "java/lang/String") hex
      have hlen := h100 hi
      obtain ⟨t, ht, hT⟩ := va_Tof (tm := tmV i) (ty := .byte) (N := (wlW i).length) (f := fun j => .int (Int32.ofNat ((wlW i).getD j 0))) (A := A) (by omega) (hN hi 5 rfl) (va_eqt (hN hi 6 rfl)) (fun j hj => va_eqt (hEl hi j hj)) hA
      exact ⟨(a, t), fun _ => ⟨q1, va_Oof hex q1 hA, vk_OFof q1 (va_eqt (hN hi 4 rfl)) hA, vk_OFof q1 ht hA, hT⟩⟩
    · exact ⟨(0, 0), fun h => absurd h hi⟩
  obtain ⟨sA, hsA⟩ := Classical.axiomOfChoice hS
  have hKs : ∀ i : Nat, ∃ a : Nat, i < 19 → (tmK i).eval #[Value.ref b] s none [] s = some (.ref a) ∧ va_O "TerraceRain$Keyword" a A s s.heap ∧ va_OF "TerraceRain$Keyword" "text" "Ljava/lang/String;" (.ref (sA i).1) a A s s.heap ∧ va_OF "TerraceRain$Keyword" "token" "I" (.int (wlT i)) a A s s.heap := by
    intro i
    by_cases hi : i < 19
    · have hex : (Cond.exactly (tmK i) "TerraceRain$Keyword").before #[Value.ref b] s = true := hN hi 0 rfl
      obtain ⟨a, c, cA, kA, q1, -⟩ := Cond.exactly_spec (args := #[Value.ref b]) (first := s) (o := none) (s := s) (idx := []) (t := tmK i) (cls := "TerraceRain$Keyword") hex
      exact ⟨a, fun _ => ⟨q1, va_Oof hex q1 hA, vk_OFof q1 (ev_ref (hN hi 1 rfl) (hsA i hi).1) hA, vk_OFof q1 (va_eqt (hN hi 2 rfl)) hA⟩⟩
    · exact ⟨0, fun h => absurd h hi⟩
  obtain ⟨kA, hkA⟩ := Classical.axiomOfChoice hKs
  obtain ⟨kw, hkw, hkT⟩ := va_Tof (tm := tmKW) (ty := .object "TerraceRain$Keyword") (N := 19) (f := fun j => .ref (kA j)) (A := A) (by decide) (hB 0 rfl) (va_eqt (hB 1 rfl)) (fun j hj => ev_ref (hN hj 7 rfl) (hkA j hj).1) hA
  obtain ⟨wd, hwd, hwT⟩ := va_Tof (tm := tmWD) (ty := .object "java/lang/String") (N := 19) (f := fun j => .ref (sA j).1) (A := A) (by decide) (hB 2 rfl) (va_eqt (hB 3 rfl)) (fun j hj => ev_ref (hN hj 8 rfl) (ev_ref (hN hj 9 rfl) (hsA j hj).1)) hA
  have z0 : va_Z "TerraceRain$Tokens" "KEYWORDS" "[LTerraceRain$Keyword;" (.ref kw) A s s.heap := va_Zof (hts _ (List.mem_of_getElem? (i := 402) (by decide +kernel))) (hts _ (List.mem_of_getElem? (i := 80) (by decide +kernel))) hkw hA
  have z1 : va_Z "TerraceRainModel" "WORDS" "[Ljava/lang/String;" (.ref wd) A s s.heap := va_Zof (hts _ (List.mem_of_getElem? (i := 1267) (by decide +kernel))) (hts _ (List.mem_of_getElem? (i := 86) (by decide +kernel))) hwd hA
  have z2 : va_Z "java/lang/String" "COMPACT_STRINGS" "Z" (.int 1) A s s.heap := va_Zof (hts _ (List.mem_of_getElem? (i := 416) (by decide +kernel))) (hts _ (List.mem_of_getElem? (i := 94) (by decide +kernel))) (va_eqt (hB 4 rfl)) hA
  obtain ⟨sv, hsv, z3⟩ : ∃ sv : Value, isA sv = true ∧ va_Z "jdk/internal/util/Preconditions" "SIOOBE_FORMATTER" "Ljava/util/function/BiFunction;" sv A s s.heap := by
    rcases va_Zqof (A := A) (hts _ (List.mem_of_getElem? (i := 432) (by decide +kernel))) (hts _ (List.mem_of_getElem? (i := 96) (by decide +kernel))) (hB 5 rfl) hA with h | ⟨t, h⟩
    · exact ⟨.null, rfl, h⟩
    · exact ⟨.ref t, rfl, h⟩
  have y1 : vx_Zq Bundle.tN "UNASSIGNED_STACK" Bundle.steD A s s.heap := vxZq_of (hts _ (List.mem_of_getElem? (i := 709) (by decide +kernel))) (hts _ (List.mem_of_getElem? (i := 89) (by decide +kernel))) (hB 6 rfl) hA
  have y2 : vx_Zq Bundle.tN "SUPPRESSED_SENTINEL" Bundle.listD A s s.heap := vxZq_of (hts _ (List.mem_of_getElem? (i := 711) (by decide +kernel))) (hts _ (List.mem_of_getElem? (i := 89) (by decide +kernel))) (hB 7 rfl) hA
  obtain ⟨eA, heA⟩ := pick (α := Nat) (β := Nat × Nat × (Nat → Value)) (fun t q => (q.1 = 0 ∨ q.1 = 2 ∨ q.1 = 5 ∨ q.1 = 6) ∧ q.2.1 < 2 ^ 31 ∧ va_T (tyTag q.1) t q.2.1 q.2.2 A s s.heap)
  obtain ⟨eF, heF⟩ := pick (α := Nat × Nat × Nat) (β := Value) (fun x v => 20 ≤ x.2.1 ∧ va_OF (CFM x.2.1 x.2.2).1 (CFM x.2.1 x.2.2).2.1 (CFM x.2.1 x.2.2).2.2 v x.1 A s s.heap)
  obtain ⟨eO, heO⟩ := pick (α := Nat) (β := Nat) (fun t a => (a = 20 ∨ a = 21) ∧ va_O (CNM a) t A s s.heap)
  have gA : ∀ {tag N t : Nat} {f : Nat → Value}, (tag = 0 ∨ tag = 2 ∨ tag = 5 ∨ tag = 6) → N < 2 ^ 31 → va_T (tyTag tag) t N f A s s.heap → ∃ f', eA t = some (tag, N, f') ∧ ∀ j, j < N → f' j = f j := by
    intro tag N t f h1 h2 h3
    obtain ⟨⟨tag', N', f'⟩, hq⟩ := (heA t).2 ⟨(tag, N, f), h1, h2, h3⟩
    obtain ⟨g1, g2, g3⟩ := (heA t).1 _ hq
    obtain ⟨u1, u2, u3⟩ := va_T_uni g3 h3 g2 h2
    have e1 := tag_uni g1 h1 u1
    replace e1 : tag' = tag := e1
    replace u2 : N' = N := u2
    rw [e1, u2] at hq
    exact ⟨f', hq, fun j hj => u3 j (by show j < N'; omega)⟩
  have gF : ∀ {t a k : Nat} {v : Value}, 20 ≤ a → va_OF (CFM a k).1 (CFM a k).2.1 (CFM a k).2.2 v t A s s.heap → eF (t, a, k) = some v := by
    intro t a k v h1 h2
    obtain ⟨v', hv⟩ := (heF (t, a, k)).2 ⟨v, h1, h2⟩
    rw [hv, va_OF_uni ((heF (t, a, k)).1 _ hv).2 h2]
  have gO : ∀ {t a : Nat}, (a = 20 ∨ a = 21) → va_O (CNM a) t A s s.heap → eO t = some a := by
    intro t a h1 h2
    obtain ⟨a', hv⟩ := (heO t).2 ⟨a, h1, h2⟩
    obtain ⟨g1, g2⟩ := (heO t).1 _ hv
    have e := va_O_nm g2 h2
    rw [hv]
    rcases g1 with rfl | rfl <;> rcases h1 with rfl | rfl <;> first | rfl | exact absurd e (by decide)
  obtain ⟨st, hst0, hst1, hst2, hst3, hstz⟩ : ∃ st : Nat → Value, st 0 = .ref kw ∧ st 1 = .ref wd ∧ st 2 = .int 1 ∧ st 3 = sv ∧ ∀ k, va_Z (SNM k).1 (SNM k).2.1 (SNM k).2.2 (st k) A s s.heap := by
    refine ⟨fun k => match k with
      | 0 => .ref kw
      | 1 => .ref wd
      | 2 => .int 1
      | _ => sv, rfl, rfl, rfl, rfl, fun k => ?_⟩
    match k with
    | 0 => exact z0
    | 1 => exact z1
    | 2 => exact z2
    | k + 3 => exact z3
  have hSTR : ∀ {i : Nat} {w : List Nat} {t : Int32}, WL[i]? = some (w, t) → STR (st, eA, fun t a k => eF (t, a, k), eO) (fun _ => none) (sA i).1 w := by
    intro i w t hi
    obtain ⟨h19, e1, e2, h100, h128⟩ := wl_at hi
    obtain ⟨q1, q2, q3, q4, q5⟩ := hsA i h19
    obtain ⟨f', hf1, hf2⟩ := gA (tag := 2) (Or.inr (Or.inl rfl)) (by rw [e1]; omega) q5
    refine ⟨rfl, gO (Or.inr rfl) q2, gF (by omega) q3, hst2, by show isA (st 3) = true; rw [hst3]; exact hsv, h100, (sA i).2, f', gF (by omega) q4, rfl, ?_, fun j hj => ?_⟩
    · rw [← e1]
      exact hf1
    · obtain ⟨c, hc⟩ : ∃ c, w[j]? = some c := ⟨w[j], List.getElem?_eq_getElem hj⟩
      refine ⟨c, hc, h128 c (List.mem_of_getElem? hc), ?_⟩
      rw [hf2 j (by rw [e1]; exact hj), e1, List.getD_eq_getElem?_getD, hc]
      rfl
  refine ⟨(st, eA, fun t a k => eF (t, a, k), eO), ⟨hstz, fun t q hq => ((heA t).1 q hq).2.2, fun t a k v hv => ⟨((heF (t, a, k)).1 v hv).2, ((heF (t, a, k)).1 v hv).1⟩, fun t a hv => ⟨((heO t).1 a hv).2, by rcases ((heO t).1 a hv).1 with e | e <;> omega⟩, y1, y2⟩, ?_, ?_, ?_⟩
  · obtain ⟨f', hf1, hf2⟩ := gA (tag := 5) (Or.inr (Or.inr (Or.inl rfl))) (by decide) hkT
    refine ⟨kw, f', hst0, rfl, hf1, fun i w t hi => ?_⟩
    obtain ⟨h19, e1, e2, -, -⟩ := wl_at hi
    obtain ⟨q1, q2, q3, q4⟩ := hkA i h19
    refine ⟨kA i, (sA i).1, hf2 i h19, rfl, gO (Or.inl rfl) q2, gF (by omega) q3, ?_, hSTR hi⟩
    rw [← e2]
    exact gF (by omega) q4
  · obtain ⟨f', hf1, hf2⟩ := gA (tag := 6) (Or.inr (Or.inr (Or.inr rfl))) (by decide) hwT
    refine ⟨wd, f', hst1, rfl, hf1, fun i w t hi => ?_⟩
    obtain ⟨h19, -, -, -, -⟩ := wl_at hi
    exact ⟨(sA i).1, hf2 i h19, hSTR hi⟩
  · obtain ⟨scr, g1, g2, g3, g4, g5⟩ := hX
    have hT : va_T (tyTag 0) b L (fun j => .int (xs j)) A s s.heap := ⟨scr, g1, g2, g3, by omega, by rw [g4], g5, hA b (Array.getElem?_eq_some_iff.mp g1).1⟩
    exact gA (Or.inl rfl) (by omega) hT
