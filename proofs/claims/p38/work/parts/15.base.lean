/-! the small machine, ready for use: what reads give behind writes, what fields keep -/
theorem mset_ap {μ : MMu} {o k : Nat} {v : Value} {o' k' : Nat} : mset μ o k v o' k' = if o' = o ∧ k' = k then v else μ o' k' := rfl
theorem mrow_ap {μ : MMu} {o : Nat} {f : Nat → Value} {o' k' : Nat} : mrow μ o f o' k' = if o' = o then f k' else μ o' k' := rfl
theorem tset_ap {τ : MTau} {o : Nat} {x : Nat ⊕ (Nat × Nat)} {o' : Nat} : tset τ o x o' = if o' = o then some x else τ o' := rfl
theorem pf_i {x : Int32} : pfit .int (.int x) = True := eq_true ⟨rfl, rfl⟩
theorem pf_l {x : Int64} : pfit .long (.long x) = True := eq_true ⟨rfl, rfl⟩
theorem pf_r {C : String} {x : Nat} : pfit (.object C) (.ref x) = True := eq_true ⟨rfl, rfl⟩
theorem pf_n {C : String} : pfit (.object C) .null = True := eq_true ⟨rfl, rfl⟩
theorem pf_ar {t : FieldType} {x : Nat} : pfit (.array t) (.ref x) = True := eq_true ⟨rfl, rfl⟩
theorem pf_an {t : FieldType} : pfit (.array t) .null = True := eq_true ⟨rfl, rfl⟩
theorem pf_z0 : pfit .boolean (.int 0) = True := eq_true ⟨rfl, rfl⟩
theorem pf_z1 : pfit .boolean (.int 1) = True := eq_true ⟨rfl, rfl⟩
theorem pf_z {x : Int32} (h : x = 0 ∨ x = 1) : pfit .boolean (.int x) := by rcases h with rfl | rfl <;> exact ⟨rfl, rfl⟩
theorem rf_0 {x : Int32} : rfit 0 x = True := rfl
theorem rf_1 {x : Int32} : rfit 1 x = (x = 0 ∨ x = 1) := rfl
theorem rf_10 : rfit 1 0 = True := eq_true (Or.inl rfl)
theorem rf_11 : rfit 1 1 = True := eq_true (Or.inr rfl)
theorem i32_11 : ((1 : Int32) = 0) = False := eq_false (by decide)
theorem i32_01 : ((0 : Int32) = 1) = False := eq_false (by decide)
theorem toList_s {v : Value} {r : List Value} : (some v).toList ++ r = v :: r := rfl
theorem toList_n {r : List Value} : (none : Option Value).toList ++ r = r := rfl
theorem ft_0_0 : fty 0 0 = .int := by decide +kernel
theorem ft_0_1 : fty 0 1 = .int := by decide +kernel
theorem ft_0_2 : fty 0 2 = .int := by decide +kernel
theorem ft_0_3 : fty 0 3 = .long := by decide +kernel
theorem ft_0_4 : fty 0 4 = .int := by decide +kernel
theorem ft_0_5 : fty 0 5 = .int := by decide +kernel
theorem ft_0_6 : fty 0 6 = .int := by decide +kernel
theorem ft_0_7 : fty 0 7 = .boolean := by decide +kernel
theorem ft_0_8 : fty 0 8 = .int := by decide +kernel
theorem ft_0_9 : fty 0 9 = .object "TerraceRain$Branch" := by decide +kernel
theorem ft_0_10 : fty 0 10 = .object "TerraceRain$Branch" := by decide +kernel
theorem fn_0 : fnum 0 = 11 := rfl
theorem ft_1_0 : fty 1 0 = .object "TerraceRain$Tokens" := by decide +kernel
theorem ft_1_1 : fty 1 1 = .object "TerraceRain$Plan" := by decide +kernel
theorem fn_1 : fnum 1 = 2 := rfl
theorem ft_2_0 : fty 2 0 = .array (.int) := by decide +kernel
theorem ft_2_1 : fty 2 1 = .int := by decide +kernel
theorem ft_2_2 : fty 2 2 = .int := by decide +kernel
theorem ft_2_3 : fty 2 3 = .int := by decide +kernel
theorem ft_2_4 : fty 2 4 = .int := by decide +kernel
theorem ft_2_5 : fty 2 5 = .int := by decide +kernel
theorem fn_2 : fnum 2 = 6 := rfl
theorem ft_3_0 : fty 3 0 = .array (.byte) := by decide +kernel
theorem ft_3_1 : fty 3 1 = .int := by decide +kernel
theorem fn_3 : fnum 3 = 2 := rfl
theorem ft_4_0 : fty 4 0 = .array (.int) := by decide +kernel
theorem ft_4_1 : fty 4 1 = .array (.int) := by decide +kernel
theorem ft_4_2 : fty 4 2 = .int := by decide +kernel
theorem ft_4_3 : fty 4 3 = .int := by decide +kernel
theorem ft_4_4 : fty 4 4 = .int := by decide +kernel
theorem fn_4 : fnum 4 = 5 := rfl
theorem ft_5_0 : fty 5 0 = .object "TerraceRain$Branch" := by decide +kernel
theorem ft_5_1 : fty 5 1 = .array (.object "TerraceRain$Branch") := by decide +kernel
theorem ft_5_2 : fty 5 2 = .int := by decide +kernel
theorem ft_5_3 : fty 5 3 = .int := by decide +kernel
theorem ft_5_4 : fty 5 4 = .int := by decide +kernel
theorem ft_5_5 : fty 5 5 = .int := by decide +kernel
theorem ft_5_6 : fty 5 6 = .long := by decide +kernel
theorem ft_5_7 : fty 5 7 = .int := by decide +kernel
theorem ft_5_8 : fty 5 8 = .int := by decide +kernel
theorem fn_5 : fnum 5 = 9 := rfl
theorem ft_6_0 : fty 6 0 = .array (.int) := by decide +kernel
theorem ft_6_1 : fty 6 1 = .int := by decide +kernel
theorem fn_6 : fnum 6 = 2 := rfl
theorem ft_7_0 : fty 7 0 = .object "TerraceRain$Tape" := by decide +kernel
theorem ft_7_1 : fty 7 1 = .object "TerraceRain$Tokens" := by decide +kernel
theorem ft_7_2 : fty 7 2 = .object "TerraceRain$Plan" := by decide +kernel
theorem ft_7_3 : fty 7 3 = .object "TerraceRain$Plan" := by decide +kernel
theorem ft_7_4 : fty 7 4 = .object "TerraceRain$Grammar" := by decide +kernel
theorem ft_7_5 : fty 7 5 = .object "TerraceRain$Worker" := by decide +kernel
theorem ft_7_6 : fty 7 6 = .object "TerraceRain$Valley" := by decide +kernel
theorem ft_7_7 : fty 7 7 = .object "TerraceRain$Valley" := by decide +kernel
theorem ft_7_8 : fty 7 8 = .int := by decide +kernel
theorem fn_7 : fnum 7 = 9 := rfl
theorem ft_8_0 : fty 8 0 = .int := by decide +kernel
theorem ft_8_1 : fty 8 1 = .object "TerraceRainLaw$Tree" := by decide +kernel
theorem ft_8_2 : fty 8 2 = .object "TerraceRainLaw$Tree" := by decide +kernel
theorem ft_8_3 : fty 8 3 = .object "TerraceRainLaw$Tree" := by decide +kernel
theorem ft_8_4 : fty 8 4 = .object "TerraceRainLaw$Tree" := by decide +kernel
theorem fn_8 : fnum 8 = 5 := rfl
theorem ft_9_0 : fty 9 0 = .int := by decide +kernel
theorem ft_9_1 : fty 9 1 = .int := by decide +kernel
theorem ft_9_2 : fty 9 2 = .int := by decide +kernel
theorem ft_9_3 : fty 9 3 = .array (.object "TerraceRainLaw$Order") := by decide +kernel
theorem ft_9_4 : fty 9 4 = .array (.int) := by decide +kernel
theorem ft_9_5 : fty 9 5 = .array (.array (.int)) := by decide +kernel
theorem fn_9 : fnum 9 = 6 := rfl
theorem ft_10_0 : fty 10 0 = .int := by decide +kernel
theorem ft_10_1 : fty 10 1 = .int := by decide +kernel
theorem ft_10_2 : fty 10 2 = .object "TerraceRainLaw$Tree" := by decide +kernel
theorem ft_10_3 : fty 10 3 = .object "TerraceRainLaw$Tree" := by decide +kernel
theorem fn_10 : fnum 10 = 4 := rfl
theorem ft_11_0 : fty 11 0 = .array (.byte) := by decide +kernel
theorem ft_11_1 : fty 11 1 = .byte := by decide +kernel
theorem ft_11_2 : fty 11 2 = .boolean := by decide +kernel
theorem ft_11_3 : fty 11 3 = .int := by decide +kernel
theorem fn_11 : fnum 11 = 4 := rfl
theorem ft_12_0 : fty 12 0 = .array (.byte) := by decide +kernel
theorem ft_12_1 : fty 12 1 = .byte := by decide +kernel
theorem ft_12_2 : fty 12 2 = .int := by decide +kernel
theorem ft_12_3 : fty 12 3 = .boolean := by decide +kernel
theorem fn_12 : fnum 12 = 4 := rfl
