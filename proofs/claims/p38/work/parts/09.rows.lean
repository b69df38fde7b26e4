/-! one row an instruction: what exI is there -/
theorem e_iconst {E : MEnv} {cal : MCal} {Q : MPost} {i : Nat} {P : MP} {pc : Nat} {ls : MLoc} {τ : MTau} {c n : Nat} {μ : MMu} {l a b w r : Nat} {k : Int} {st : List Value} : exI E cal Q i P pc ls st τ c n μ (some (.iconst k, l, a, b, w, r)) = (P (pc + 1) ls (.int (Int32.ofInt k) :: st) τ c n μ) := rfl
theorem e_bipush {E : MEnv} {cal : MCal} {Q : MPost} {i : Nat} {P : MP} {pc : Nat} {ls : MLoc} {τ : MTau} {c n : Nat} {μ : MMu} {l a b w r : Nat} {k : Int} {st : List Value} : exI E cal Q i P pc ls st τ c n μ (some (.bipush k, l, a, b, w, r)) = (P (pc + 2) ls (.int (Int8.ofInt k).toInt32 :: st) τ c n μ) := rfl
theorem e_sipush {E : MEnv} {cal : MCal} {Q : MPost} {i : Nat} {P : MP} {pc : Nat} {ls : MLoc} {τ : MTau} {c n : Nat} {μ : MMu} {l a b w r : Nat} {k : Int} {st : List Value} : exI E cal Q i P pc ls st τ c n μ (some (.sipush k, l, a, b, w, r)) = (P (pc + 3) ls (.int (Int16.ofInt k).toInt32 :: st) τ c n μ) := rfl
theorem e_lconst_0 {E : MEnv} {cal : MCal} {Q : MPost} {i : Nat} {P : MP} {pc : Nat} {ls : MLoc} {τ : MTau} {c n : Nat} {μ : MMu} {l a b w r : Nat} {st : List Value} : exI E cal Q i P pc ls st τ c n μ (some (.lconst 0, l, a, b, w, r)) = (P (pc + 1) ls (.long 0 :: st) τ c n μ) := rfl
theorem e_lconst_1 {E : MEnv} {cal : MCal} {Q : MPost} {i : Nat} {P : MP} {pc : Nat} {ls : MLoc} {τ : MTau} {c n : Nat} {μ : MMu} {l a b w r : Nat} {st : List Value} : exI E cal Q i P pc ls st τ c n μ (some (.lconst 1, l, a, b, w, r)) = (P (pc + 1) ls (.long 1 :: st) τ c n μ) := rfl
theorem e_aconst_null {E : MEnv} {cal : MCal} {Q : MPost} {i : Nat} {P : MP} {pc : Nat} {ls : MLoc} {τ : MTau} {c n : Nat} {μ : MMu} {l a b w r : Nat}  {st : List Value} : exI E cal Q i P pc ls st τ c n μ (some (.aconst_null, l, a, b, w, r)) = (P (pc + 1) ls (.null :: st) τ c n μ) := rfl
theorem e_ldc2_w {E : MEnv} {cal : MCal} {Q : MPost} {i : Nat} {P : MP} {pc : Nat} {ls : MLoc} {τ : MTau} {c n : Nat} {μ : MMu} {l a b w r : Nat} {k : Nat} {st : List Value} : exI E cal Q i P pc ls st τ c n μ (some (.ldc2_w k, l, a, b, w, r)) = (P (pc + 3) ls (.long (mLong a) :: st) τ c n μ) := rfl
theorem e_iload_n_0 {E : MEnv} {cal : MCal} {Q : MPost} {i : Nat} {P : MP} {pc : Nat} {ls : MLoc} {τ : MTau} {c n : Nat} {μ : MMu} {l a b w r : Nat} {st : List Value} : exI E cal Q i P pc ls st τ c n μ (some (.iload_n 0, l, a, b, w, r)) = (xload isI P (pc + 1) 0 ls st τ c n μ) := rfl
theorem e_iload_n_1 {E : MEnv} {cal : MCal} {Q : MPost} {i : Nat} {P : MP} {pc : Nat} {ls : MLoc} {τ : MTau} {c n : Nat} {μ : MMu} {l a b w r : Nat} {st : List Value} : exI E cal Q i P pc ls st τ c n μ (some (.iload_n 1, l, a, b, w, r)) = (xload isI P (pc + 1) 1 ls st τ c n μ) := rfl
theorem e_iload_n_2 {E : MEnv} {cal : MCal} {Q : MPost} {i : Nat} {P : MP} {pc : Nat} {ls : MLoc} {τ : MTau} {c n : Nat} {μ : MMu} {l a b w r : Nat} {st : List Value} : exI E cal Q i P pc ls st τ c n μ (some (.iload_n 2, l, a, b, w, r)) = (xload isI P (pc + 1) 2 ls st τ c n μ) := rfl
theorem e_iload_n_3 {E : MEnv} {cal : MCal} {Q : MPost} {i : Nat} {P : MP} {pc : Nat} {ls : MLoc} {τ : MTau} {c n : Nat} {μ : MMu} {l a b w r : Nat} {st : List Value} : exI E cal Q i P pc ls st τ c n μ (some (.iload_n 3, l, a, b, w, r)) = (xload isI P (pc + 1) 3 ls st τ c n μ) := rfl
theorem e_iload {E : MEnv} {cal : MCal} {Q : MPost} {i : Nat} {P : MP} {pc : Nat} {ls : MLoc} {τ : MTau} {c n : Nat} {μ : MMu} {l a b w r : Nat} {k : Nat} {st : List Value} : exI E cal Q i P pc ls st τ c n μ (some (.iload k, l, a, b, w, r)) = (xload isI P (pc + 2) k ls st τ c n μ) := rfl
theorem e_lload_n_0 {E : MEnv} {cal : MCal} {Q : MPost} {i : Nat} {P : MP} {pc : Nat} {ls : MLoc} {τ : MTau} {c n : Nat} {μ : MMu} {l a b w r : Nat} {st : List Value} : exI E cal Q i P pc ls st τ c n μ (some (.lload_n 0, l, a, b, w, r)) = (xload isL P (pc + 1) 0 ls st τ c n μ) := rfl
theorem e_lload_n_1 {E : MEnv} {cal : MCal} {Q : MPost} {i : Nat} {P : MP} {pc : Nat} {ls : MLoc} {τ : MTau} {c n : Nat} {μ : MMu} {l a b w r : Nat} {st : List Value} : exI E cal Q i P pc ls st τ c n μ (some (.lload_n 1, l, a, b, w, r)) = (xload isL P (pc + 1) 1 ls st τ c n μ) := rfl
theorem e_lload_n_2 {E : MEnv} {cal : MCal} {Q : MPost} {i : Nat} {P : MP} {pc : Nat} {ls : MLoc} {τ : MTau} {c n : Nat} {μ : MMu} {l a b w r : Nat} {st : List Value} : exI E cal Q i P pc ls st τ c n μ (some (.lload_n 2, l, a, b, w, r)) = (xload isL P (pc + 1) 2 ls st τ c n μ) := rfl
theorem e_lload_n_3 {E : MEnv} {cal : MCal} {Q : MPost} {i : Nat} {P : MP} {pc : Nat} {ls : MLoc} {τ : MTau} {c n : Nat} {μ : MMu} {l a b w r : Nat} {st : List Value} : exI E cal Q i P pc ls st τ c n μ (some (.lload_n 3, l, a, b, w, r)) = (xload isL P (pc + 1) 3 ls st τ c n μ) := rfl
theorem e_lload {E : MEnv} {cal : MCal} {Q : MPost} {i : Nat} {P : MP} {pc : Nat} {ls : MLoc} {τ : MTau} {c n : Nat} {μ : MMu} {l a b w r : Nat} {k : Nat} {st : List Value} : exI E cal Q i P pc ls st τ c n μ (some (.lload k, l, a, b, w, r)) = (xload isL P (pc + 2) k ls st τ c n μ) := rfl
theorem e_dload {E : MEnv} {cal : MCal} {Q : MPost} {i : Nat} {P : MP} {pc : Nat} {ls : MLoc} {τ : MTau} {c n : Nat} {μ : MMu} {l a b w r : Nat} {k : Nat} {st : List Value} : exI E cal Q i P pc ls st τ c n μ (some (.dload k, l, a, b, w, r)) = (xload isD P (pc + 2) k ls st τ c n μ) := rfl
theorem e_aload_n_0 {E : MEnv} {cal : MCal} {Q : MPost} {i : Nat} {P : MP} {pc : Nat} {ls : MLoc} {τ : MTau} {c n : Nat} {μ : MMu} {l a b w r : Nat} {st : List Value} : exI E cal Q i P pc ls st τ c n μ (some (.aload_n 0, l, a, b, w, r)) = (xload isA P (pc + 1) 0 ls st τ c n μ) := rfl
theorem e_aload_n_1 {E : MEnv} {cal : MCal} {Q : MPost} {i : Nat} {P : MP} {pc : Nat} {ls : MLoc} {τ : MTau} {c n : Nat} {μ : MMu} {l a b w r : Nat} {st : List Value} : exI E cal Q i P pc ls st τ c n μ (some (.aload_n 1, l, a, b, w, r)) = (xload isA P (pc + 1) 1 ls st τ c n μ) := rfl
theorem e_aload_n_2 {E : MEnv} {cal : MCal} {Q : MPost} {i : Nat} {P : MP} {pc : Nat} {ls : MLoc} {τ : MTau} {c n : Nat} {μ : MMu} {l a b w r : Nat} {st : List Value} : exI E cal Q i P pc ls st τ c n μ (some (.aload_n 2, l, a, b, w, r)) = (xload isA P (pc + 1) 2 ls st τ c n μ) := rfl
theorem e_aload_n_3 {E : MEnv} {cal : MCal} {Q : MPost} {i : Nat} {P : MP} {pc : Nat} {ls : MLoc} {τ : MTau} {c n : Nat} {μ : MMu} {l a b w r : Nat} {st : List Value} : exI E cal Q i P pc ls st τ c n μ (some (.aload_n 3, l, a, b, w, r)) = (xload isA P (pc + 1) 3 ls st τ c n μ) := rfl
theorem e_aload {E : MEnv} {cal : MCal} {Q : MPost} {i : Nat} {P : MP} {pc : Nat} {ls : MLoc} {τ : MTau} {c n : Nat} {μ : MMu} {l a b w r : Nat} {k : Nat} {st : List Value} : exI E cal Q i P pc ls st τ c n μ (some (.aload k, l, a, b, w, r)) = (xload isA P (pc + 2) k ls st τ c n μ) := rfl
theorem e_istore_n_0_0 {E : MEnv} {cal : MCal} {Q : MPost} {i : Nat} {P : MP} {pc : Nat} {ls : MLoc} {τ : MTau} {c n : Nat} {μ : MMu} {l a b w r : Nat} {x : Int32} {q : List Value} : exI E cal Q i P pc ls (.int x :: q) τ c n μ (some (.istore_n 0, l, a, b, w, r)) = (P (pc + 1) ((0, .int x) :: ldel1 0 ls) q τ c n μ) := rfl
theorem e_istore_n_0_1 {E : MEnv} {cal : MCal} {Q : MPost} {i : Nat} {P : MP} {pc : Nat} {ls : MLoc} {τ : MTau} {c n : Nat} {μ : MMu} {l a b w r : Nat} {x : Int32} {q : List Value} : exI E cal Q i P pc ls (.int x :: q) τ c n μ (some (.istore_n 1, l, a, b, w, r)) = (P (pc + 1) ((1, .int x) :: ldel1 1 ls) q τ c n μ) := rfl
theorem e_istore_n_0_2 {E : MEnv} {cal : MCal} {Q : MPost} {i : Nat} {P : MP} {pc : Nat} {ls : MLoc} {τ : MTau} {c n : Nat} {μ : MMu} {l a b w r : Nat} {x : Int32} {q : List Value} : exI E cal Q i P pc ls (.int x :: q) τ c n μ (some (.istore_n 2, l, a, b, w, r)) = (P (pc + 1) ((2, .int x) :: ldel1 2 ls) q τ c n μ) := rfl
theorem e_istore_n_0_3 {E : MEnv} {cal : MCal} {Q : MPost} {i : Nat} {P : MP} {pc : Nat} {ls : MLoc} {τ : MTau} {c n : Nat} {μ : MMu} {l a b w r : Nat} {x : Int32} {q : List Value} : exI E cal Q i P pc ls (.int x :: q) τ c n μ (some (.istore_n 3, l, a, b, w, r)) = (P (pc + 1) ((3, .int x) :: ldel1 3 ls) q τ c n μ) := rfl
theorem e_istore_0 {E : MEnv} {cal : MCal} {Q : MPost} {i : Nat} {P : MP} {pc : Nat} {ls : MLoc} {τ : MTau} {c n : Nat} {μ : MMu} {l a b w r : Nat} {k : Nat} {x : Int32} {q : List Value} : exI E cal Q i P pc ls (.int x :: q) τ c n μ (some (.istore k, l, a, b, w, r)) = (P (pc + 2) ((k, .int x) :: ldel1 k ls) q τ c n μ) := rfl
theorem e_astore_n_0_0 {E : MEnv} {cal : MCal} {Q : MPost} {i : Nat} {P : MP} {pc : Nat} {ls : MLoc} {τ : MTau} {c n : Nat} {μ : MMu} {l a b w r : Nat} {x : Nat} {q : List Value} : exI E cal Q i P pc ls (.ref x :: q) τ c n μ (some (.astore_n 0, l, a, b, w, r)) = (P (pc + 1) ((0, .ref x) :: ldel1 0 ls) q τ c n μ) := rfl
theorem e_astore_n_0_1 {E : MEnv} {cal : MCal} {Q : MPost} {i : Nat} {P : MP} {pc : Nat} {ls : MLoc} {τ : MTau} {c n : Nat} {μ : MMu} {l a b w r : Nat} {x : Nat} {q : List Value} : exI E cal Q i P pc ls (.ref x :: q) τ c n μ (some (.astore_n 1, l, a, b, w, r)) = (P (pc + 1) ((1, .ref x) :: ldel1 1 ls) q τ c n μ) := rfl
theorem e_astore_n_0_2 {E : MEnv} {cal : MCal} {Q : MPost} {i : Nat} {P : MP} {pc : Nat} {ls : MLoc} {τ : MTau} {c n : Nat} {μ : MMu} {l a b w r : Nat} {x : Nat} {q : List Value} : exI E cal Q i P pc ls (.ref x :: q) τ c n μ (some (.astore_n 2, l, a, b, w, r)) = (P (pc + 1) ((2, .ref x) :: ldel1 2 ls) q τ c n μ) := rfl
theorem e_astore_n_0_3 {E : MEnv} {cal : MCal} {Q : MPost} {i : Nat} {P : MP} {pc : Nat} {ls : MLoc} {τ : MTau} {c n : Nat} {μ : MMu} {l a b w r : Nat} {x : Nat} {q : List Value} : exI E cal Q i P pc ls (.ref x :: q) τ c n μ (some (.astore_n 3, l, a, b, w, r)) = (P (pc + 1) ((3, .ref x) :: ldel1 3 ls) q τ c n μ) := rfl
theorem e_astore_n_1_0 {E : MEnv} {cal : MCal} {Q : MPost} {i : Nat} {P : MP} {pc : Nat} {ls : MLoc} {τ : MTau} {c n : Nat} {μ : MMu} {l a b w r : Nat} {q : List Value} : exI E cal Q i P pc ls (.null :: q) τ c n μ (some (.astore_n 0, l, a, b, w, r)) = (P (pc + 1) ((0, .null) :: ldel1 0 ls) q τ c n μ) := rfl
theorem e_astore_n_1_1 {E : MEnv} {cal : MCal} {Q : MPost} {i : Nat} {P : MP} {pc : Nat} {ls : MLoc} {τ : MTau} {c n : Nat} {μ : MMu} {l a b w r : Nat} {q : List Value} : exI E cal Q i P pc ls (.null :: q) τ c n μ (some (.astore_n 1, l, a, b, w, r)) = (P (pc + 1) ((1, .null) :: ldel1 1 ls) q τ c n μ) := rfl
theorem e_astore_n_1_2 {E : MEnv} {cal : MCal} {Q : MPost} {i : Nat} {P : MP} {pc : Nat} {ls : MLoc} {τ : MTau} {c n : Nat} {μ : MMu} {l a b w r : Nat} {q : List Value} : exI E cal Q i P pc ls (.null :: q) τ c n μ (some (.astore_n 2, l, a, b, w, r)) = (P (pc + 1) ((2, .null) :: ldel1 2 ls) q τ c n μ) := rfl
theorem e_astore_n_1_3 {E : MEnv} {cal : MCal} {Q : MPost} {i : Nat} {P : MP} {pc : Nat} {ls : MLoc} {τ : MTau} {c n : Nat} {μ : MMu} {l a b w r : Nat} {q : List Value} : exI E cal Q i P pc ls (.null :: q) τ c n μ (some (.astore_n 3, l, a, b, w, r)) = (P (pc + 1) ((3, .null) :: ldel1 3 ls) q τ c n μ) := rfl
theorem e_astore_0 {E : MEnv} {cal : MCal} {Q : MPost} {i : Nat} {P : MP} {pc : Nat} {ls : MLoc} {τ : MTau} {c n : Nat} {μ : MMu} {l a b w r : Nat} {k : Nat} {x : Nat} {q : List Value} : exI E cal Q i P pc ls (.ref x :: q) τ c n μ (some (.astore k, l, a, b, w, r)) = (P (pc + 2) ((k, .ref x) :: ldel1 k ls) q τ c n μ) := rfl
theorem e_astore_1 {E : MEnv} {cal : MCal} {Q : MPost} {i : Nat} {P : MP} {pc : Nat} {ls : MLoc} {τ : MTau} {c n : Nat} {μ : MMu} {l a b w r : Nat} {k : Nat} {q : List Value} : exI E cal Q i P pc ls (.null :: q) τ c n μ (some (.astore k, l, a, b, w, r)) = (P (pc + 2) ((k, .null) :: ldel1 k ls) q τ c n μ) := rfl
theorem e_lstore_n_0_0 {E : MEnv} {cal : MCal} {Q : MPost} {i : Nat} {P : MP} {pc : Nat} {ls : MLoc} {τ : MTau} {c n : Nat} {μ : MMu} {l a b w r : Nat} {x : Int64} {q : List Value} : exI E cal Q i P pc ls (.long x :: q) τ c n μ (some (.lstore_n 0, l, a, b, w, r)) = (P (pc + 1) ((0, .long x) :: ldel2 0 ls) q τ c n μ) := rfl
theorem e_lstore_n_0_1 {E : MEnv} {cal : MCal} {Q : MPost} {i : Nat} {P : MP} {pc : Nat} {ls : MLoc} {τ : MTau} {c n : Nat} {μ : MMu} {l a b w r : Nat} {x : Int64} {q : List Value} : exI E cal Q i P pc ls (.long x :: q) τ c n μ (some (.lstore_n 1, l, a, b, w, r)) = (P (pc + 1) ((1, .long x) :: ldel2 1 ls) q τ c n μ) := rfl
theorem e_lstore_n_0_2 {E : MEnv} {cal : MCal} {Q : MPost} {i : Nat} {P : MP} {pc : Nat} {ls : MLoc} {τ : MTau} {c n : Nat} {μ : MMu} {l a b w r : Nat} {x : Int64} {q : List Value} : exI E cal Q i P pc ls (.long x :: q) τ c n μ (some (.lstore_n 2, l, a, b, w, r)) = (P (pc + 1) ((2, .long x) :: ldel2 2 ls) q τ c n μ) := rfl
theorem e_lstore_n_0_3 {E : MEnv} {cal : MCal} {Q : MPost} {i : Nat} {P : MP} {pc : Nat} {ls : MLoc} {τ : MTau} {c n : Nat} {μ : MMu} {l a b w r : Nat} {x : Int64} {q : List Value} : exI E cal Q i P pc ls (.long x :: q) τ c n μ (some (.lstore_n 3, l, a, b, w, r)) = (P (pc + 1) ((3, .long x) :: ldel2 3 ls) q τ c n μ) := rfl
theorem e_lstore_0 {E : MEnv} {cal : MCal} {Q : MPost} {i : Nat} {P : MP} {pc : Nat} {ls : MLoc} {τ : MTau} {c n : Nat} {μ : MMu} {l a b w r : Nat} {k : Nat} {x : Int64} {q : List Value} : exI E cal Q i P pc ls (.long x :: q) τ c n μ (some (.lstore k, l, a, b, w, r)) = (P (pc + 2) ((k, .long x) :: ldel2 k ls) q τ c n μ) := rfl
theorem e_dstore_0 {E : MEnv} {cal : MCal} {Q : MPost} {i : Nat} {P : MP} {pc : Nat} {ls : MLoc} {τ : MTau} {c n : Nat} {μ : MMu} {l a b w r : Nat} {k : Nat} {x : UInt64} {q : List Value} : exI E cal Q i P pc ls (.double x :: q) τ c n μ (some (.dstore k, l, a, b, w, r)) = (P (pc + 2) ((k, .double x) :: ldel2 k ls) q τ c n μ) := rfl
theorem e_iadd_0 {E : MEnv} {cal : MCal} {Q : MPost} {i : Nat} {P : MP} {pc : Nat} {ls : MLoc} {τ : MTau} {c n : Nat} {μ : MMu} {l a b w r : Nat}  {y : Int32} {x : Int32} {q : List Value} : exI E cal Q i P pc ls (.int y :: .int x :: q) τ c n μ (some (.iadd, l, a, b, w, r)) = (P (pc + 1) ls (.int (x + y) :: q) τ c n μ) := rfl
theorem e_isub_0 {E : MEnv} {cal : MCal} {Q : MPost} {i : Nat} {P : MP} {pc : Nat} {ls : MLoc} {τ : MTau} {c n : Nat} {μ : MMu} {l a b w r : Nat}  {y : Int32} {x : Int32} {q : List Value} : exI E cal Q i P pc ls (.int y :: .int x :: q) τ c n μ (some (.isub, l, a, b, w, r)) = (P (pc + 1) ls (.int (x - y) :: q) τ c n μ) := rfl
theorem e_imul_0 {E : MEnv} {cal : MCal} {Q : MPost} {i : Nat} {P : MP} {pc : Nat} {ls : MLoc} {τ : MTau} {c n : Nat} {μ : MMu} {l a b w r : Nat}  {y : Int32} {x : Int32} {q : List Value} : exI E cal Q i P pc ls (.int y :: .int x :: q) τ c n μ (some (.imul, l, a, b, w, r)) = (P (pc + 1) ls (.int (x * y) :: q) τ c n μ) := rfl
theorem e_idiv_0 {E : MEnv} {cal : MCal} {Q : MPost} {i : Nat} {P : MP} {pc : Nat} {ls : MLoc} {τ : MTau} {c n : Nat} {μ : MMu} {l a b w r : Nat}  {y : Int32} {x : Int32} {q : List Value} : exI E cal Q i P pc ls (.int y :: .int x :: q) τ c n μ (some (.idiv, l, a, b, w, r)) = (¬ y = 0 ∧ P (pc + 1) ls (.int (x / y) :: q) τ c n μ) := rfl
theorem e_irem_0 {E : MEnv} {cal : MCal} {Q : MPost} {i : Nat} {P : MP} {pc : Nat} {ls : MLoc} {τ : MTau} {c n : Nat} {μ : MMu} {l a b w r : Nat}  {y : Int32} {x : Int32} {q : List Value} : exI E cal Q i P pc ls (.int y :: .int x :: q) τ c n μ (some (.irem, l, a, b, w, r)) = (¬ y = 0 ∧ P (pc + 1) ls (.int (x - x / y * y) :: q) τ c n μ) := rfl
theorem e_ineg_0 {E : MEnv} {cal : MCal} {Q : MPost} {i : Nat} {P : MP} {pc : Nat} {ls : MLoc} {τ : MTau} {c n : Nat} {μ : MMu} {l a b w r : Nat}  {x : Int32} {q : List Value} : exI E cal Q i P pc ls (.int x :: q) τ c n μ (some (.ineg, l, a, b, w, r)) = (P (pc + 1) ls (.int (-x) :: q) τ c n μ) := rfl
theorem e_iand_0 {E : MEnv} {cal : MCal} {Q : MPost} {i : Nat} {P : MP} {pc : Nat} {ls : MLoc} {τ : MTau} {c n : Nat} {μ : MMu} {l a b w r : Nat}  {y : Int32} {x : Int32} {q : List Value} : exI E cal Q i P pc ls (.int y :: .int x :: q) τ c n μ (some (.iand, l, a, b, w, r)) = (P (pc + 1) ls (.int (x &&& y) :: q) τ c n μ) := rfl
theorem e_ior_0 {E : MEnv} {cal : MCal} {Q : MPost} {i : Nat} {P : MP} {pc : Nat} {ls : MLoc} {τ : MTau} {c n : Nat} {μ : MMu} {l a b w r : Nat}  {y : Int32} {x : Int32} {q : List Value} : exI E cal Q i P pc ls (.int y :: .int x :: q) τ c n μ (some (.ior, l, a, b, w, r)) = (P (pc + 1) ls (.int (x ||| y) :: q) τ c n μ) := rfl
theorem e_ixor_0 {E : MEnv} {cal : MCal} {Q : MPost} {i : Nat} {P : MP} {pc : Nat} {ls : MLoc} {τ : MTau} {c n : Nat} {μ : MMu} {l a b w r : Nat}  {y : Int32} {x : Int32} {q : List Value} : exI E cal Q i P pc ls (.int y :: .int x :: q) τ c n μ (some (.ixor, l, a, b, w, r)) = (P (pc + 1) ls (.int (x ^^^ y) :: q) τ c n μ) := rfl
theorem e_ishr_0 {E : MEnv} {cal : MCal} {Q : MPost} {i : Nat} {P : MP} {pc : Nat} {ls : MLoc} {τ : MTau} {c n : Nat} {μ : MMu} {l a b w r : Nat}  {y : Int32} {x : Int32} {q : List Value} : exI E cal Q i P pc ls (.int y :: .int x :: q) τ c n μ (some (.ishr, l, a, b, w, r)) = (P (pc + 1) ls (.int (x >>> (y &&& 31)) :: q) τ c n μ) := rfl
theorem e_i2b_0 {E : MEnv} {cal : MCal} {Q : MPost} {i : Nat} {P : MP} {pc : Nat} {ls : MLoc} {τ : MTau} {c n : Nat} {μ : MMu} {l a b w r : Nat}  {x : Int32} {q : List Value} : exI E cal Q i P pc ls (.int x :: q) τ c n μ (some (.i2b, l, a, b, w, r)) = (P (pc + 1) ls (.int x.toInt8.toInt32 :: q) τ c n μ) := rfl
theorem e_i2c_0 {E : MEnv} {cal : MCal} {Q : MPost} {i : Nat} {P : MP} {pc : Nat} {ls : MLoc} {τ : MTau} {c n : Nat} {μ : MMu} {l a b w r : Nat}  {x : Int32} {q : List Value} : exI E cal Q i P pc ls (.int x :: q) τ c n μ (some (.i2c, l, a, b, w, r)) = (P (pc + 1) ls (.int (x.toUInt32 % 65536).toInt32 :: q) τ c n μ) := rfl
theorem e_i2l_0 {E : MEnv} {cal : MCal} {Q : MPost} {i : Nat} {P : MP} {pc : Nat} {ls : MLoc} {τ : MTau} {c n : Nat} {μ : MMu} {l a b w r : Nat}  {x : Int32} {q : List Value} : exI E cal Q i P pc ls (.int x :: q) τ c n μ (some (.i2l, l, a, b, w, r)) = (P (pc + 1) ls (.long x.toInt64 :: q) τ c n μ) := rfl
theorem e_l2i_0 {E : MEnv} {cal : MCal} {Q : MPost} {i : Nat} {P : MP} {pc : Nat} {ls : MLoc} {τ : MTau} {c n : Nat} {μ : MMu} {l a b w r : Nat}  {x : Int64} {q : List Value} : exI E cal Q i P pc ls (.long x :: q) τ c n μ (some (.l2i, l, a, b, w, r)) = (P (pc + 1) ls (.int x.toInt32 :: q) τ c n μ) := rfl
theorem e_l2d_0 {E : MEnv} {cal : MCal} {Q : MPost} {i : Nat} {P : MP} {pc : Nat} {ls : MLoc} {τ : MTau} {c n : Nat} {μ : MMu} {l a b w r : Nat}  {x : Int64} {q : List Value} : exI E cal Q i P pc ls (.long x :: q) τ c n μ (some (.l2d, l, a, b, w, r)) = (P (pc + 1) ls (.double (FP.l2d x) :: q) τ c n μ) := rfl
theorem e_i2d_0 {E : MEnv} {cal : MCal} {Q : MPost} {i : Nat} {P : MP} {pc : Nat} {ls : MLoc} {τ : MTau} {c n : Nat} {μ : MMu} {l a b w r : Nat}  {x : Int32} {q : List Value} : exI E cal Q i P pc ls (.int x :: q) τ c n μ (some (.i2d, l, a, b, w, r)) = (P (pc + 1) ls (.double (FP.i2d x) :: q) τ c n μ) := rfl
theorem e_ladd_0 {E : MEnv} {cal : MCal} {Q : MPost} {i : Nat} {P : MP} {pc : Nat} {ls : MLoc} {τ : MTau} {c n : Nat} {μ : MMu} {l a b w r : Nat}  {y : Int64} {x : Int64} {q : List Value} : exI E cal Q i P pc ls (.long y :: .long x :: q) τ c n μ (some (.ladd, l, a, b, w, r)) = (P (pc + 1) ls (.long (x + y) :: q) τ c n μ) := rfl
theorem e_lsub_0 {E : MEnv} {cal : MCal} {Q : MPost} {i : Nat} {P : MP} {pc : Nat} {ls : MLoc} {τ : MTau} {c n : Nat} {μ : MMu} {l a b w r : Nat}  {y : Int64} {x : Int64} {q : List Value} : exI E cal Q i P pc ls (.long y :: .long x :: q) τ c n μ (some (.lsub, l, a, b, w, r)) = (P (pc + 1) ls (.long (x - y) :: q) τ c n μ) := rfl
theorem e_lmul_0 {E : MEnv} {cal : MCal} {Q : MPost} {i : Nat} {P : MP} {pc : Nat} {ls : MLoc} {τ : MTau} {c n : Nat} {μ : MMu} {l a b w r : Nat}  {y : Int64} {x : Int64} {q : List Value} : exI E cal Q i P pc ls (.long y :: .long x :: q) τ c n μ (some (.lmul, l, a, b, w, r)) = (P (pc + 1) ls (.long (x * y) :: q) τ c n μ) := rfl
theorem e_lcmp_0 {E : MEnv} {cal : MCal} {Q : MPost} {i : Nat} {P : MP} {pc : Nat} {ls : MLoc} {τ : MTau} {c n : Nat} {μ : MMu} {l a b w r : Nat}  {y : Int64} {x : Int64} {q : List Value} : exI E cal Q i P pc ls (.long y :: .long x :: q) τ c n μ (some (.lcmp, l, a, b, w, r)) = (P (pc + 1) ls (.int (lg_cmp x y) :: q) τ c n μ) := rfl
theorem e_ddiv_0 {E : MEnv} {cal : MCal} {Q : MPost} {i : Nat} {P : MP} {pc : Nat} {ls : MLoc} {τ : MTau} {c n : Nat} {μ : MMu} {l a b w r : Nat}  {y : UInt64} {x : UInt64} {q : List Value} : exI E cal Q i P pc ls (.double y :: .double x :: q) τ c n μ (some (.ddiv, l, a, b, w, r)) = (vf_n64 (FP.ddiv x y) ∧ P (pc + 1) ls (.double (FP.ddiv x y) :: q) τ c n μ) := rfl
theorem e_dcmp_0 {E : MEnv} {cal : MCal} {Q : MPost} {i : Nat} {P : MP} {pc : Nat} {ls : MLoc} {τ : MTau} {c n : Nat} {μ : MMu} {l a b w r : Nat} {op : CmpOp} {y : UInt64} {x : UInt64} {q : List Value} : exI E cal Q i P pc ls (.double y :: .double x :: q) τ c n μ (some (.dcmp op, l, a, b, w, r)) = (P (pc + 1) ls (.int (Op.cmpValue (FP.dcmp x y) op) :: q) τ c n μ) := rfl
theorem e_dup_0 {E : MEnv} {cal : MCal} {Q : MPost} {i : Nat} {P : MP} {pc : Nat} {ls : MLoc} {τ : MTau} {c n : Nat} {μ : MMu} {l a b w r : Nat}  {v : Value} {q : List Value} : exI E cal Q i P pc ls (v :: q) τ c n μ (some (.dup, l, a, b, w, r)) = (v.category = 1 ∧ P (pc + 1) ls (v :: v :: q) τ c n μ) := rfl
theorem e_dup2_0 {E : MEnv} {cal : MCal} {Q : MPost} {i : Nat} {P : MP} {pc : Nat} {ls : MLoc} {τ : MTau} {c n : Nat} {μ : MMu} {l a b w r : Nat}  {v : Value} {u : Value} {q : List Value} : exI E cal Q i P pc ls (v :: u :: q) τ c n μ (some (.dup2, l, a, b, w, r)) = (v.category = 1 ∧ u.category = 1 ∧ P (pc + 1) ls (v :: u :: v :: u :: q) τ c n μ) := rfl
theorem e_pop_0 {E : MEnv} {cal : MCal} {Q : MPost} {i : Nat} {P : MP} {pc : Nat} {ls : MLoc} {τ : MTau} {c n : Nat} {μ : MMu} {l a b w r : Nat}  {v : Value} {q : List Value} : exI E cal Q i P pc ls (v :: q) τ c n μ (some (.pop, l, a, b, w, r)) = (v.category = 1 ∧ P (pc + 1) ls q τ c n μ) := rfl
theorem e_goto {E : MEnv} {cal : MCal} {Q : MPost} {i : Nat} {P : MP} {pc : Nat} {ls : MLoc} {τ : MTau} {c n : Nat} {μ : MMu} {l a b w r : Nat} {k : Int} {st : List Value} : exI E cal Q i P pc ls st τ c n μ (some (.goto k, l, a, b, w, r)) = (P a ls st τ c n μ) := rfl
theorem e_ifCond_eq {E : MEnv} {cal : MCal} {Q : MPost} {i : Nat} {P : MP} {pc : Nat} {ls : MLoc} {τ : MTau} {c n : Nat} {μ : MMu} {l a b w r : Nat} {k : Int} {x : Int32} {q : List Value} : exI E cal Q i P pc ls (.int x :: q) τ c n μ (some (.ifCond .eq k, l, a, b, w, r)) = ((x = 0 → P a ls q τ c n μ) ∧ (¬ x = 0 → P (pc + 3) ls q τ c n μ)) := rfl
theorem e_ifCond_ne {E : MEnv} {cal : MCal} {Q : MPost} {i : Nat} {P : MP} {pc : Nat} {ls : MLoc} {τ : MTau} {c n : Nat} {μ : MMu} {l a b w r : Nat} {k : Int} {x : Int32} {q : List Value} : exI E cal Q i P pc ls (.int x :: q) τ c n μ (some (.ifCond .ne k, l, a, b, w, r)) = ((¬ x = 0 → P a ls q τ c n μ) ∧ (x = 0 → P (pc + 3) ls q τ c n μ)) := rfl
theorem e_ifCond_lt {E : MEnv} {cal : MCal} {Q : MPost} {i : Nat} {P : MP} {pc : Nat} {ls : MLoc} {τ : MTau} {c n : Nat} {μ : MMu} {l a b w r : Nat} {k : Int} {x : Int32} {q : List Value} : exI E cal Q i P pc ls (.int x :: q) τ c n μ (some (.ifCond .lt k, l, a, b, w, r)) = ((x < 0 → P a ls q τ c n μ) ∧ (¬ x < 0 → P (pc + 3) ls q τ c n μ)) := rfl
theorem e_ifCond_ge {E : MEnv} {cal : MCal} {Q : MPost} {i : Nat} {P : MP} {pc : Nat} {ls : MLoc} {τ : MTau} {c n : Nat} {μ : MMu} {l a b w r : Nat} {k : Int} {x : Int32} {q : List Value} : exI E cal Q i P pc ls (.int x :: q) τ c n μ (some (.ifCond .ge k, l, a, b, w, r)) = ((¬ x < 0 → P a ls q τ c n μ) ∧ (x < 0 → P (pc + 3) ls q τ c n μ)) := rfl
theorem e_ifCond_gt {E : MEnv} {cal : MCal} {Q : MPost} {i : Nat} {P : MP} {pc : Nat} {ls : MLoc} {τ : MTau} {c n : Nat} {μ : MMu} {l a b w r : Nat} {k : Int} {x : Int32} {q : List Value} : exI E cal Q i P pc ls (.int x :: q) τ c n μ (some (.ifCond .gt k, l, a, b, w, r)) = ((0 < x → P a ls q τ c n μ) ∧ (¬ 0 < x → P (pc + 3) ls q τ c n μ)) := rfl
theorem e_ifCond_le {E : MEnv} {cal : MCal} {Q : MPost} {i : Nat} {P : MP} {pc : Nat} {ls : MLoc} {τ : MTau} {c n : Nat} {μ : MMu} {l a b w r : Nat} {k : Int} {x : Int32} {q : List Value} : exI E cal Q i P pc ls (.int x :: q) τ c n μ (some (.ifCond .le k, l, a, b, w, r)) = ((¬ 0 < x → P a ls q τ c n μ) ∧ (0 < x → P (pc + 3) ls q τ c n μ)) := rfl
theorem e_if_icmp_eq {E : MEnv} {cal : MCal} {Q : MPost} {i : Nat} {P : MP} {pc : Nat} {ls : MLoc} {τ : MTau} {c n : Nat} {μ : MMu} {l a b w r : Nat} {k : Int} {x y : Int32} {q : List Value} : exI E cal Q i P pc ls (.int y :: .int x :: q) τ c n μ (some (.if_icmp .eq k, l, a, b, w, r)) = ((x = y → P a ls q τ c n μ) ∧ (¬ x = y → P (pc + 3) ls q τ c n μ)) := rfl
theorem e_if_icmp_ne {E : MEnv} {cal : MCal} {Q : MPost} {i : Nat} {P : MP} {pc : Nat} {ls : MLoc} {τ : MTau} {c n : Nat} {μ : MMu} {l a b w r : Nat} {k : Int} {x y : Int32} {q : List Value} : exI E cal Q i P pc ls (.int y :: .int x :: q) τ c n μ (some (.if_icmp .ne k, l, a, b, w, r)) = ((¬ x = y → P a ls q τ c n μ) ∧ (x = y → P (pc + 3) ls q τ c n μ)) := rfl
theorem e_if_icmp_lt {E : MEnv} {cal : MCal} {Q : MPost} {i : Nat} {P : MP} {pc : Nat} {ls : MLoc} {τ : MTau} {c n : Nat} {μ : MMu} {l a b w r : Nat} {k : Int} {x y : Int32} {q : List Value} : exI E cal Q i P pc ls (.int y :: .int x :: q) τ c n μ (some (.if_icmp .lt k, l, a, b, w, r)) = ((x < y → P a ls q τ c n μ) ∧ (¬ x < y → P (pc + 3) ls q τ c n μ)) := rfl
theorem e_if_icmp_ge {E : MEnv} {cal : MCal} {Q : MPost} {i : Nat} {P : MP} {pc : Nat} {ls : MLoc} {τ : MTau} {c n : Nat} {μ : MMu} {l a b w r : Nat} {k : Int} {x y : Int32} {q : List Value} : exI E cal Q i P pc ls (.int y :: .int x :: q) τ c n μ (some (.if_icmp .ge k, l, a, b, w, r)) = ((¬ x < y → P a ls q τ c n μ) ∧ (x < y → P (pc + 3) ls q τ c n μ)) := rfl
theorem e_if_icmp_gt {E : MEnv} {cal : MCal} {Q : MPost} {i : Nat} {P : MP} {pc : Nat} {ls : MLoc} {τ : MTau} {c n : Nat} {μ : MMu} {l a b w r : Nat} {k : Int} {x y : Int32} {q : List Value} : exI E cal Q i P pc ls (.int y :: .int x :: q) τ c n μ (some (.if_icmp .gt k, l, a, b, w, r)) = ((y < x → P a ls q τ c n μ) ∧ (¬ y < x → P (pc + 3) ls q τ c n μ)) := rfl
theorem e_if_icmp_le {E : MEnv} {cal : MCal} {Q : MPost} {i : Nat} {P : MP} {pc : Nat} {ls : MLoc} {τ : MTau} {c n : Nat} {μ : MMu} {l a b w r : Nat} {k : Int} {x y : Int32} {q : List Value} : exI E cal Q i P pc ls (.int y :: .int x :: q) τ c n μ (some (.if_icmp .le k, l, a, b, w, r)) = ((¬ y < x → P a ls q τ c n μ) ∧ (y < x → P (pc + 3) ls q τ c n μ)) := rfl
theorem e_ifnull_0 {E : MEnv} {cal : MCal} {Q : MPost} {i : Nat} {P : MP} {pc : Nat} {ls : MLoc} {τ : MTau} {c n : Nat} {μ : MMu} {l a b w r : Nat} {k : Int} {q : List Value} : exI E cal Q i P pc ls (.null :: q) τ c n μ (some (.ifnull k, l, a, b, w, r)) = (P a ls q τ c n μ) := rfl
theorem e_ifnull_1 {E : MEnv} {cal : MCal} {Q : MPost} {i : Nat} {P : MP} {pc : Nat} {ls : MLoc} {τ : MTau} {c n : Nat} {μ : MMu} {l a b w r : Nat} {k : Int} {_ : Nat} {o9 : Nat} {q : List Value} : exI E cal Q i P pc ls (.ref o9 :: q) τ c n μ (some (.ifnull k, l, a, b, w, r)) = (P (pc + 3) ls q τ c n μ) := rfl
theorem e_ifnonnull_0 {E : MEnv} {cal : MCal} {Q : MPost} {i : Nat} {P : MP} {pc : Nat} {ls : MLoc} {τ : MTau} {c n : Nat} {μ : MMu} {l a b w r : Nat} {k : Int} {q : List Value} : exI E cal Q i P pc ls (.null :: q) τ c n μ (some (.ifnonnull k, l, a, b, w, r)) = (P (pc + 3) ls q τ c n μ) := rfl
theorem e_ifnonnull_1 {E : MEnv} {cal : MCal} {Q : MPost} {i : Nat} {P : MP} {pc : Nat} {ls : MLoc} {τ : MTau} {c n : Nat} {μ : MMu} {l a b w r : Nat} {k : Int} {_ : Nat} {o9 : Nat} {q : List Value} : exI E cal Q i P pc ls (.ref o9 :: q) τ c n μ (some (.ifnonnull k, l, a, b, w, r)) = (P a ls q τ c n μ) := rfl
theorem e_tableswitch_0 {E : MEnv} {cal : MCal} {Q : MPost} {i : Nat} {P : MP} {pc : Nat} {ls : MLoc} {τ : MTau} {c n : Nat} {μ : MMu} {l a b w r : Nat} {df lo hi : Int} {offs : Array Int} {x : Int32} {q : List Value} : exI E cal Q i P pc ls (.int x :: q) τ c n μ (some (.tableswitch df lo hi offs, l, a, b, w, r)) = ((x.toInt < lo ∨ hi < x.toInt → P (tgOf pc df) ls q τ c n μ) ∧ swL (fun t => P t ls q τ c n μ) x pc lo offs.toList) := rfl
theorem e_lookupswitch_0 {E : MEnv} {cal : MCal} {Q : MPost} {i : Nat} {P : MP} {pc : Nat} {ls : MLoc} {τ : MTau} {c n : Nat} {μ : MMu} {l a b w r : Nat} {df : Int} {ps : Array (Int × Int)} {x : Int32} {q : List Value} : exI E cal Q i P pc ls (.int x :: q) τ c n μ (some (.lookupswitch df ps, l, a, b, w, r)) = (((∀ z ∈ ps.toList, x.toInt ≠ z.1) → P (tgOf pc df) ls q τ c n μ) ∧ swP (fun t => P t ls q τ c n μ) x pc ps.toList) := rfl
theorem e_getfield_0 {E : MEnv} {cal : MCal} {Q : MPost} {i : Nat} {P : MP} {pc : Nat} {ls : MLoc} {τ : MTau} {c n : Nat} {μ : MMu} {l a b w r : Nat} {k : Nat} {o : Nat} {q : List Value} : exI E cal Q i P pc ls (.ref o :: q) τ c n μ (some (.getfield k, l, a, b, w, r)) = ((match fget E τ μ o a b with
        | some v => P (pc + 3) ls (v :: q) τ c n μ
        | none => False)) := rfl
theorem e_putfield_0 {E : MEnv} {cal : MCal} {Q : MPost} {i : Nat} {P : MP} {pc : Nat} {ls : MLoc} {τ : MTau} {c n : Nat} {μ : MMu} {l a b w r : Nat} {k : Nat} {o : Nat} {v : Value} {q : List Value} : exI E cal Q i P pc ls (v :: .ref o :: q) τ c n μ (some (.putfield k, l, a, b, w, r)) = (τ o = some (.inl a) ∧ pfit (fty a b) v ∧ P (pc + 3) ls q τ c n (mset μ o b v)) := rfl
theorem e_getstatic {E : MEnv} {cal : MCal} {Q : MPost} {i : Nat} {P : MP} {pc : Nat} {ls : MLoc} {τ : MTau} {c n : Nat} {μ : MMu} {l a b w r : Nat} {k : Nat} {st : List Value} : exI E cal Q i P pc ls st τ c n μ (some (.getstatic k, l, a, b, w, r)) = (P (pc + 3) ls (E.1 a :: st) τ c n μ) := rfl
theorem e_newarray_0 {E : MEnv} {cal : MCal} {Q : MPost} {i : Nat} {P : MP} {pc : Nat} {ls : MLoc} {τ : MTau} {c n : Nat} {μ : MMu} {l a b w r : Nat} {t : ArrayType} {x : Int32} {q : List Value} : exI E cal Q i P pc ls (.int x :: q) τ c n μ (some (.newarray t, l, a, b, w, r)) = (¬ x < 0 ∧ x.toNatClampNeg ≤ 60000 ∧ 1 ≤ c ∧ x.toNatClampNeg ≤ n ∧ tagOf t ≤ 3 ∧ ∀ o : Nat, mfr E τ o → P (pc + 2) ls (.ref o :: q) (tset τ o (.inr (tagOf t, x.toNatClampNeg))) (c - 1) (n - x.toNatClampNeg) (mrow μ o (fun _ => tag0 (tagOf t)))) := rfl
theorem e_arraylength_0 {E : MEnv} {cal : MCal} {Q : MPost} {i : Nat} {P : MP} {pc : Nat} {ls : MLoc} {τ : MTau} {c n : Nat} {μ : MMu} {l a b w r : Nat}  {o : Nat} {q : List Value} : exI E cal Q i P pc ls (.ref o :: q) τ c n μ (some (.arraylength, l, a, b, w, r)) = ((match aget E τ μ o with
        | some (_, N, _) => P (pc + 1) ls (.int (Int32.ofNat N) :: q) τ c n μ
        | none => False)) := rfl
theorem e_iaload {E : MEnv} {cal : MCal} {Q : MPost} {i : Nat} {P : MP} {pc : Nat} {ls : MLoc} {τ : MTau} {c n : Nat} {μ : MMu} {l a b w r : Nat}  {st : List Value} : exI E cal Q i P pc ls st τ c n μ (some (.iaload, l, a, b, w, r)) = (xald (fun t => t == 0) E P (pc + 1) ls st τ c n μ) := rfl
theorem e_laload {E : MEnv} {cal : MCal} {Q : MPost} {i : Nat} {P : MP} {pc : Nat} {ls : MLoc} {τ : MTau} {c n : Nat} {μ : MMu} {l a b w r : Nat}  {st : List Value} : exI E cal Q i P pc ls st τ c n μ (some (.laload, l, a, b, w, r)) = (xald (fun t => t == 1) E P (pc + 1) ls st τ c n μ) := rfl
theorem e_baload {E : MEnv} {cal : MCal} {Q : MPost} {i : Nat} {P : MP} {pc : Nat} {ls : MLoc} {τ : MTau} {c n : Nat} {μ : MMu} {l a b w r : Nat}  {st : List Value} : exI E cal Q i P pc ls st τ c n μ (some (.baload, l, a, b, w, r)) = (xald (fun t => t == 2 || t == 3) E P (pc + 1) ls st τ c n μ) := rfl
theorem e_iastore_0 {E : MEnv} {cal : MCal} {Q : MPost} {i : Nat} {P : MP} {pc : Nat} {ls : MLoc} {τ : MTau} {c n : Nat} {μ : MMu} {l a b w r : Nat}  {x : Int32} {j : Int32} {o : Nat} {q : List Value} : exI E cal Q i P pc ls (.int x :: .int j :: .ref o :: q) τ c n μ (some (.iastore, l, a, b, w, r)) = ((match τ o with
        | some (.inr (0, N)) => vp_in j N ∧ P (pc + 1) ls q τ c n (mset μ o j.toNatClampNeg (.int x))
        | _ => False)) := rfl
theorem e_lastore_0 {E : MEnv} {cal : MCal} {Q : MPost} {i : Nat} {P : MP} {pc : Nat} {ls : MLoc} {τ : MTau} {c n : Nat} {μ : MMu} {l a b w r : Nat}  {x : Int64} {j : Int32} {o : Nat} {q : List Value} : exI E cal Q i P pc ls (.long x :: .int j :: .ref o :: q) τ c n μ (some (.lastore, l, a, b, w, r)) = ((match τ o with
        | some (.inr (1, N)) => vp_in j N ∧ P (pc + 1) ls q τ c n (mset μ o j.toNatClampNeg (.long x))
        | _ => False)) := rfl
theorem e_bastore_0 {E : MEnv} {cal : MCal} {Q : MPost} {i : Nat} {P : MP} {pc : Nat} {ls : MLoc} {τ : MTau} {c n : Nat} {μ : MMu} {l a b w r : Nat}  {x : Int32} {j : Int32} {o : Nat} {q : List Value} : exI E cal Q i P pc ls (.int x :: .int j :: .ref o :: q) τ c n μ (some (.bastore, l, a, b, w, r)) = ((match τ o with
        | some (.inr (2, N)) => vp_in j N ∧ P (pc + 1) ls q τ c n (mset μ o j.toNatClampNeg (.int (vp_nar .byte x)))
        | some (.inr (3, N)) => vp_in j N ∧ P (pc + 1) ls q τ c n (mset μ o j.toNatClampNeg (.int (vp_nar .boolean x)))
        | _ => False)) := rfl
theorem e_ireturn_0 {E : MEnv} {cal : MCal} {Q : MPost} {i : Nat} {P : MP} {pc : Nat} {ls : MLoc} {τ : MTau} {c n : Nat} {μ : MMu} {l a b w r : Nat}  {x : Int32} : exI E cal Q i P pc ls ([.int x]) τ c n μ (some (.ireturn, l, a, b, w, r)) = (rfit r x ∧ Q (.inl (some (.int x))) τ μ) := rfl
theorem e_lreturn_0 {E : MEnv} {cal : MCal} {Q : MPost} {i : Nat} {P : MP} {pc : Nat} {ls : MLoc} {τ : MTau} {c n : Nat} {μ : MMu} {l a b w r : Nat}  {x : Int64} : exI E cal Q i P pc ls ([.long x]) τ c n μ (some (.lreturn, l, a, b, w, r)) = (Q (.inl (some (.long x))) τ μ) := rfl
theorem e_dreturn_0 {E : MEnv} {cal : MCal} {Q : MPost} {i : Nat} {P : MP} {pc : Nat} {ls : MLoc} {τ : MTau} {c n : Nat} {μ : MMu} {l a b w r : Nat}  {x : UInt64} : exI E cal Q i P pc ls ([.double x]) τ c n μ (some (.dreturn, l, a, b, w, r)) = (Q (.inl (some (.double x))) τ μ) := rfl
theorem e_areturn_0 {E : MEnv} {cal : MCal} {Q : MPost} {i : Nat} {P : MP} {pc : Nat} {ls : MLoc} {τ : MTau} {c n : Nat} {μ : MMu} {l a b w r : Nat}  {x : Nat} : exI E cal Q i P pc ls ([.ref x]) τ c n μ (some (.areturn, l, a, b, w, r)) = (Q (.inl (some (.ref x))) τ μ) := rfl
theorem e_areturn_1 {E : MEnv} {cal : MCal} {Q : MPost} {i : Nat} {P : MP} {pc : Nat} {ls : MLoc} {τ : MTau} {c n : Nat} {μ : MMu} {l a b w r : Nat}   : exI E cal Q i P pc ls ([.null]) τ c n μ (some (.areturn, l, a, b, w, r)) = (Q (.inl (some .null)) τ μ) := rfl
theorem e_return__0 {E : MEnv} {cal : MCal} {Q : MPost} {i : Nat} {P : MP} {pc : Nat} {ls : MLoc} {τ : MTau} {c n : Nat} {μ : MMu} {l a b w r : Nat}   : exI E cal Q i P pc ls ([]) τ c n μ (some (.return_, l, a, b, w, r)) = (Q (.inl none) τ μ) := rfl
theorem cn_bipush_m37 : (Int8.ofInt (-37)).toInt32 = (-37 : Int32) := by decide
theorem cn_bipush_m36 : (Int8.ofInt (-36)).toInt32 = (-36 : Int32) := by decide
theorem cn_bipush_m35 : (Int8.ofInt (-35)).toInt32 = (-35 : Int32) := by decide
theorem cn_bipush_m34 : (Int8.ofInt (-34)).toInt32 = (-34 : Int32) := by decide
theorem cn_bipush_m33 : (Int8.ofInt (-33)).toInt32 = (-33 : Int32) := by decide
theorem cn_bipush_m32 : (Int8.ofInt (-32)).toInt32 = (-32 : Int32) := by decide
theorem cn_bipush_m31 : (Int8.ofInt (-31)).toInt32 = (-31 : Int32) := by decide
theorem cn_bipush_m30 : (Int8.ofInt (-30)).toInt32 = (-30 : Int32) := by decide
theorem cn_bipush_m29 : (Int8.ofInt (-29)).toInt32 = (-29 : Int32) := by decide
theorem cn_bipush_m26 : (Int8.ofInt (-26)).toInt32 = (-26 : Int32) := by decide
theorem cn_bipush_m25 : (Int8.ofInt (-25)).toInt32 = (-25 : Int32) := by decide
theorem cn_bipush_m24 : (Int8.ofInt (-24)).toInt32 = (-24 : Int32) := by decide
theorem cn_bipush_m23 : (Int8.ofInt (-23)).toInt32 = (-23 : Int32) := by decide
theorem cn_bipush_m22 : (Int8.ofInt (-22)).toInt32 = (-22 : Int32) := by decide
theorem cn_bipush_m21 : (Int8.ofInt (-21)).toInt32 = (-21 : Int32) := by decide
theorem cn_bipush_m16 : (Int8.ofInt (-16)).toInt32 = (-16 : Int32) := by decide
theorem cn_bipush_m15 : (Int8.ofInt (-15)).toInt32 = (-15 : Int32) := by decide
theorem cn_bipush_m14 : (Int8.ofInt (-14)).toInt32 = (-14 : Int32) := by decide
theorem cn_bipush_m13 : (Int8.ofInt (-13)).toInt32 = (-13 : Int32) := by decide
theorem cn_bipush_m12 : (Int8.ofInt (-12)).toInt32 = (-12 : Int32) := by decide
theorem cn_bipush_m11 : (Int8.ofInt (-11)).toInt32 = (-11 : Int32) := by decide
theorem cn_bipush_m10 : (Int8.ofInt (-10)).toInt32 = (-10 : Int32) := by decide
theorem cn_bipush_m9 : (Int8.ofInt (-9)).toInt32 = (-9 : Int32) := by decide
theorem cn_bipush_m8 : (Int8.ofInt (-8)).toInt32 = (-8 : Int32) := by decide
theorem cn_bipush_m7 : (Int8.ofInt (-7)).toInt32 = (-7 : Int32) := by decide
theorem cn_bipush_m6 : (Int8.ofInt (-6)).toInt32 = (-6 : Int32) := by decide
theorem cn_bipush_m5 : (Int8.ofInt (-5)).toInt32 = (-5 : Int32) := by decide
theorem cn_bipush_m4 : (Int8.ofInt (-4)).toInt32 = (-4 : Int32) := by decide
theorem cn_bipush_m3 : (Int8.ofInt (-3)).toInt32 = (-3 : Int32) := by decide
theorem cn_bipush_m2 : (Int8.ofInt (-2)).toInt32 = (-2 : Int32) := by decide
theorem cn_bipush_6 : (Int8.ofInt (6)).toInt32 = (6 : Int32) := by decide
theorem cn_bipush_7 : (Int8.ofInt (7)).toInt32 = (7 : Int32) := by decide
theorem cn_bipush_8 : (Int8.ofInt (8)).toInt32 = (8 : Int32) := by decide
theorem cn_bipush_10 : (Int8.ofInt (10)).toInt32 = (10 : Int32) := by decide
theorem cn_bipush_12 : (Int8.ofInt (12)).toInt32 = (12 : Int32) := by decide
theorem cn_bipush_13 : (Int8.ofInt (13)).toInt32 = (13 : Int32) := by decide
theorem cn_bipush_14 : (Int8.ofInt (14)).toInt32 = (14 : Int32) := by decide
theorem cn_bipush_15 : (Int8.ofInt (15)).toInt32 = (15 : Int32) := by decide
theorem cn_bipush_16 : (Int8.ofInt (16)).toInt32 = (16 : Int32) := by decide
theorem cn_bipush_17 : (Int8.ofInt (17)).toInt32 = (17 : Int32) := by decide
theorem cn_bipush_18 : (Int8.ofInt (18)).toInt32 = (18 : Int32) := by decide
theorem cn_bipush_20 : (Int8.ofInt (20)).toInt32 = (20 : Int32) := by decide
theorem cn_bipush_24 : (Int8.ofInt (24)).toInt32 = (24 : Int32) := by decide
theorem cn_bipush_27 : (Int8.ofInt (27)).toInt32 = (27 : Int32) := by decide
theorem cn_bipush_30 : (Int8.ofInt (30)).toInt32 = (30 : Int32) := by decide
theorem cn_bipush_31 : (Int8.ofInt (31)).toInt32 = (31 : Int32) := by decide
theorem cn_bipush_32 : (Int8.ofInt (32)).toInt32 = (32 : Int32) := by decide
theorem cn_bipush_33 : (Int8.ofInt (33)).toInt32 = (33 : Int32) := by decide
theorem cn_bipush_40 : (Int8.ofInt (40)).toInt32 = (40 : Int32) := by decide
theorem cn_bipush_41 : (Int8.ofInt (41)).toInt32 = (41 : Int32) := by decide
theorem cn_bipush_42 : (Int8.ofInt (42)).toInt32 = (42 : Int32) := by decide
theorem cn_bipush_43 : (Int8.ofInt (43)).toInt32 = (43 : Int32) := by decide
theorem cn_bipush_44 : (Int8.ofInt (44)).toInt32 = (44 : Int32) := by decide
theorem cn_bipush_45 : (Int8.ofInt (45)).toInt32 = (45 : Int32) := by decide
theorem cn_bipush_47 : (Int8.ofInt (47)).toInt32 = (47 : Int32) := by decide
theorem cn_bipush_48 : (Int8.ofInt (48)).toInt32 = (48 : Int32) := by decide
theorem cn_bipush_57 : (Int8.ofInt (57)).toInt32 = (57 : Int32) := by decide
theorem cn_bipush_59 : (Int8.ofInt (59)).toInt32 = (59 : Int32) := by decide
theorem cn_bipush_60 : (Int8.ofInt (60)).toInt32 = (60 : Int32) := by decide
theorem cn_bipush_61 : (Int8.ofInt (61)).toInt32 = (61 : Int32) := by decide
theorem cn_bipush_62 : (Int8.ofInt (62)).toInt32 = (62 : Int32) := by decide
theorem cn_bipush_63 : (Int8.ofInt (63)).toInt32 = (63 : Int32) := by decide
theorem cn_bipush_64 : (Int8.ofInt (64)).toInt32 = (64 : Int32) := by decide
theorem cn_bipush_91 : (Int8.ofInt (91)).toInt32 = (91 : Int32) := by decide
theorem cn_bipush_93 : (Int8.ofInt (93)).toInt32 = (93 : Int32) := by decide
theorem cn_bipush_97 : (Int8.ofInt (97)).toInt32 = (97 : Int32) := by decide
theorem cn_bipush_100 : (Int8.ofInt (100)).toInt32 = (100 : Int32) := by decide
theorem cn_bipush_101 : (Int8.ofInt (101)).toInt32 = (101 : Int32) := by decide
theorem cn_bipush_102 : (Int8.ofInt (102)).toInt32 = (102 : Int32) := by decide
theorem cn_bipush_103 : (Int8.ofInt (103)).toInt32 = (103 : Int32) := by decide
theorem cn_bipush_104 : (Int8.ofInt (104)).toInt32 = (104 : Int32) := by decide
theorem cn_bipush_105 : (Int8.ofInt (105)).toInt32 = (105 : Int32) := by decide
theorem cn_bipush_106 : (Int8.ofInt (106)).toInt32 = (106 : Int32) := by decide
theorem cn_bipush_107 : (Int8.ofInt (107)).toInt32 = (107 : Int32) := by decide
theorem cn_bipush_108 : (Int8.ofInt (108)).toInt32 = (108 : Int32) := by decide
theorem cn_bipush_109 : (Int8.ofInt (109)).toInt32 = (109 : Int32) := by decide
theorem cn_bipush_110 : (Int8.ofInt (110)).toInt32 = (110 : Int32) := by decide
theorem cn_bipush_122 : (Int8.ofInt (122)).toInt32 = (122 : Int32) := by decide
theorem cn_iconst_m8 : Int32.ofInt (-8) = (-8 : Int32) := by decide
theorem cn_iconst_m1 : Int32.ofInt (-1) = (-1 : Int32) := by decide
theorem cn_iconst_0 : Int32.ofInt (0) = (0 : Int32) := by decide
theorem cn_iconst_1 : Int32.ofInt (1) = (1 : Int32) := by decide
theorem cn_iconst_2 : Int32.ofInt (2) = (2 : Int32) := by decide
theorem cn_iconst_3 : Int32.ofInt (3) = (3 : Int32) := by decide
theorem cn_iconst_4 : Int32.ofInt (4) = (4 : Int32) := by decide
theorem cn_iconst_5 : Int32.ofInt (5) = (5 : Int32) := by decide
theorem cn_iconst_6 : Int32.ofInt (6) = (6 : Int32) := by decide
theorem cn_sipush_m999 : (Int16.ofInt (-999)).toInt32 = (-999 : Int32) := by decide
theorem cn_sipush_255 : (Int16.ofInt (255)).toInt32 = (255 : Int32) := by decide
theorem cn_sipush_256 : (Int16.ofInt (256)).toInt32 = (256 : Int32) := by decide
theorem cn_sipush_316 : (Int16.ofInt (316)).toInt32 = (316 : Int32) := by decide
theorem cn_sipush_318 : (Int16.ofInt (318)).toInt32 = (318 : Int32) := by decide
theorem cn_sipush_400 : (Int16.ofInt (400)).toInt32 = (400 : Int32) := by decide
theorem cn_sipush_401 : (Int16.ofInt (401)).toInt32 = (401 : Int32) := by decide
theorem cn_sipush_800 : (Int16.ofInt (800)).toInt32 = (800 : Int32) := by decide
theorem cn_sipush_999 : (Int16.ofInt (999)).toInt32 = (999 : Int32) := by decide
theorem cn_sipush_1980 : (Int16.ofInt (1980)).toInt32 = (1980 : Int32) := by decide
theorem cn_sipush_2000 : (Int16.ofInt (2000)).toInt32 = (2000 : Int32) := by decide
theorem e_iinc {E : MEnv} {cal : MCal} {Q : MPost} {i : Nat} {P : MP} {pc : Nat} {ls : MLoc} {τ : MTau} {c n : Nat} {μ : MMu} {l a b w r : Nat} {k : Nat} {d : Int} {st : List Value} : exI E cal Q i P pc ls st τ c n μ (some (.iinc k d, l, a, b, w, r)) = (match lget ls k with
  | some (.int x) => P (pc + 3) ((k, .int (x + Int32.ofInt d)) :: ldel1 k ls) st τ c n μ
  | _ => False) := rfl
theorem e_new_0 {E : MEnv} {cal : MCal} {Q : MPost} {i : Nat} {P : MP} {pc : Nat} {ls : MLoc} {τ : MTau} {c n : Nat} {μ : MMu} {l a w r : Nat} {k : Nat} {st : List Value} : exI E cal Q i P pc ls st τ c n μ (some (.new k, l, a, 0, w, r)) = (1 ≤ c ∧ fnum a ≤ n ∧ ∀ o : Nat, mfr E τ o → P (pc + 3) ls (.ref o :: st) (tset τ o (.inl a)) (c - 1) (n - fnum a) (mrow μ o (dflt a))) := rfl
theorem e_new_1 {E : MEnv} {cal : MCal} {Q : MPost} {i : Nat} {P : MP} {pc : Nat} {ls : MLoc} {τ : MTau} {c n : Nat} {μ : MMu} {l a w r : Nat} {k : Nat} {st : List Value} : exI E cal Q i P pc ls st τ c n μ (some (.new k, l, a, 1, w, r)) = (1 ≤ c ∧ 6 ≤ n ∧ st.length ≤ 4 ∧ Q (.inr (excN a)) τ μ) := rfl
theorem e_objinit {E : MEnv} {cal : MCal} {Q : MPost} {i : Nat} {P : MP} {pc : Nat} {ls : MLoc} {τ : MTau} {c n : Nat} {μ : MMu} {l b w r : Nat} {k o9 : Nat} {q : List Value} : exI E cal Q i P pc ls (.ref o9 :: q) τ c n μ (some (.invokespecial k, l, 1000, b, w, r)) = (q.length ≤ 4 ∧ P (pc + 3) ls q τ c n μ) := rfl
theorem e_invS {E : MEnv} {cal : MCal} {Q : MPost} {i : Nat} {P : MP} {pc : Nat} {ls : MLoc} {τ : MTau} {c n : Nat} {μ : MMu} {l a b w r : Nat} {k : Nat} {st : List Value} (ha : (a == 1001) = false) : exI E cal Q i P pc ls st τ c n μ (some (.invokestatic k, l, a, b, w, r)) = (match popN b [] st with
  | some (As, q) => xcall cal (hnd i pc) Q P (pc + 3) ls q τ c n μ a As
  | none => False) := by
  have ha : a ≠ 1001 := by simpa using ha
  show (match a with
    | 1001 => _
    | _ => _) = _
  split
  · exact absurd rfl ha
  · rfl
theorem e_ldc_0 {E : MEnv} {cal : MCal} {Q : MPost} {i : Nat} {P : MP} {pc : Nat} {ls : MLoc} {τ : MTau} {c n : Nat} {μ : MMu} {l b w r : Nat} {k : Nat} {st : List Value} : exI E cal Q i P pc ls st τ c n μ (some (.ldc k, l, 0, b, w, r)) = (P (pc + 2) ls (.int (mInt 0) :: st) τ c n μ) := by
  show (if 0 < 100 then 0 ≤ 4 ∧ P (pc + 2) ls (.int (mInt 0) :: st) τ c n μ else P (pc + 2) ls (E.1 0 :: st) τ c n μ) = _
  rw [if_pos (by omega)]
  exact propext ⟨fun h => h.2, fun h => ⟨by omega, h⟩⟩
theorem e_ldc_1 {E : MEnv} {cal : MCal} {Q : MPost} {i : Nat} {P : MP} {pc : Nat} {ls : MLoc} {τ : MTau} {c n : Nat} {μ : MMu} {l b w r : Nat} {k : Nat} {st : List Value} : exI E cal Q i P pc ls st τ c n μ (some (.ldc k, l, 1, b, w, r)) = (P (pc + 2) ls (.int (mInt 1) :: st) τ c n μ) := by
  show (if 1 < 100 then 1 ≤ 4 ∧ P (pc + 2) ls (.int (mInt 1) :: st) τ c n μ else P (pc + 2) ls (E.1 1 :: st) τ c n μ) = _
  rw [if_pos (by omega)]
  exact propext ⟨fun h => h.2, fun h => ⟨by omega, h⟩⟩
theorem e_ldc_2 {E : MEnv} {cal : MCal} {Q : MPost} {i : Nat} {P : MP} {pc : Nat} {ls : MLoc} {τ : MTau} {c n : Nat} {μ : MMu} {l b w r : Nat} {k : Nat} {st : List Value} : exI E cal Q i P pc ls st τ c n μ (some (.ldc k, l, 2, b, w, r)) = (P (pc + 2) ls (.int (mInt 2) :: st) τ c n μ) := by
  show (if 2 < 100 then 2 ≤ 4 ∧ P (pc + 2) ls (.int (mInt 2) :: st) τ c n μ else P (pc + 2) ls (E.1 2 :: st) τ c n μ) = _
  rw [if_pos (by omega)]
  exact propext ⟨fun h => h.2, fun h => ⟨by omega, h⟩⟩
theorem e_ldc_3 {E : MEnv} {cal : MCal} {Q : MPost} {i : Nat} {P : MP} {pc : Nat} {ls : MLoc} {τ : MTau} {c n : Nat} {μ : MMu} {l b w r : Nat} {k : Nat} {st : List Value} : exI E cal Q i P pc ls st τ c n μ (some (.ldc k, l, 3, b, w, r)) = (P (pc + 2) ls (.int (mInt 3) :: st) τ c n μ) := by
  show (if 3 < 100 then 3 ≤ 4 ∧ P (pc + 2) ls (.int (mInt 3) :: st) τ c n μ else P (pc + 2) ls (E.1 3 :: st) τ c n μ) = _
  rw [if_pos (by omega)]
  exact propext ⟨fun h => h.2, fun h => ⟨by omega, h⟩⟩
theorem e_ldc_4 {E : MEnv} {cal : MCal} {Q : MPost} {i : Nat} {P : MP} {pc : Nat} {ls : MLoc} {τ : MTau} {c n : Nat} {μ : MMu} {l b w r : Nat} {k : Nat} {st : List Value} : exI E cal Q i P pc ls st τ c n μ (some (.ldc k, l, 4, b, w, r)) = (P (pc + 2) ls (.int (mInt 4) :: st) τ c n μ) := by
  show (if 4 < 100 then 4 ≤ 4 ∧ P (pc + 2) ls (.int (mInt 4) :: st) τ c n μ else P (pc + 2) ls (E.1 4 :: st) τ c n μ) = _
  rw [if_pos (by omega)]
  exact propext ⟨fun h => h.2, fun h => ⟨by omega, h⟩⟩
theorem e_ldc_s {E : MEnv} {cal : MCal} {Q : MPost} {i : Nat} {P : MP} {pc : Nat} {ls : MLoc} {τ : MTau} {c n : Nat} {μ : MMu} {l a b w r : Nat} {k : Nat} {st : List Value} (h : (a < 100) = False) : exI E cal Q i P pc ls st τ c n μ (some (.ldc k, l, a, b, w, r)) = (P (pc + 2) ls (E.1 a :: st) τ c n μ) := if_neg (fun z => by rw [h] at z; exact z)
theorem e_ishl_0 {E : MEnv} {cal : MCal} {Q : MPost} {i : Nat} {P : MP} {pc : Nat} {ls : MLoc} {τ : MTau} {c n : Nat} {μ : MMu} {l a b w r : Nat} {y : Int32} {x : Int32} {q : List Value} : exI E cal Q i P pc ls (.int y :: .int x :: q) τ c n μ (some (.ishl, l, a, b, w, r)) = (P (pc + 1) ls (.int (x <<< (y &&& 31)) :: q) τ c n μ) := rfl
theorem e_checkcast_0 {E : MEnv} {cal : MCal} {Q : MPost} {i : Nat} {P : MP} {pc : Nat} {ls : MLoc} {τ : MTau} {c n : Nat} {μ : MMu} {l a b w r : Nat} {k o : Nat} {q : List Value} : exI E cal Q i P pc ls (.ref o :: q) τ c n μ (some (.checkcast k, l, a, b, w, r)) = ((∃ N : Nat, τ o = some (.inr (2, N))) ∧ a = 2 ∧ P (pc + 3) ls (.ref o :: q) τ c n μ) := rfl
theorem e_anewarray_0 {E : MEnv} {cal : MCal} {Q : MPost} {i : Nat} {P : MP} {pc : Nat} {ls : MLoc} {τ : MTau} {c n : Nat} {μ : MMu} {l a b w r : Nat} {k : Nat} {x : Int32} {q : List Value} : exI E cal Q i P pc ls (.int x :: q) τ c n μ (some (.anewarray k, l, a, b, w, r)) = (¬ x < 0 ∧ x.toNatClampNeg ≤ 60000 ∧ 1 ≤ c ∧ x.toNatClampNeg ≤ n ∧ ∀ o : Nat, mfr E τ o → P (pc + 3) ls (.ref o :: q) (tset τ o (.inr (a, x.toNatClampNeg))) (c - 1) (n - x.toNatClampNeg) (mrow μ o (fun _ => .null))) := rfl
theorem e_aaload {E : MEnv} {cal : MCal} {Q : MPost} {i : Nat} {P : MP} {pc : Nat} {ls : MLoc} {τ : MTau} {c n : Nat} {μ : MMu} {l a b w r : Nat}  {st : List Value} : exI E cal Q i P pc ls st τ c n μ (some (.aaload, l, a, b, w, r)) = (xald (fun t => t == 4 || t == 5 || t == 6 || t == 7 || t == 8) E P (pc + 1) ls st τ c n μ) := rfl
theorem e_aastore_0 {E : MEnv} {cal : MCal} {Q : MPost} {i : Nat} {P : MP} {pc : Nat} {ls : MLoc} {τ : MTau} {c n : Nat} {μ : MMu} {l a b w r : Nat}  {x : Nat} {j : Int32} {o : Nat} {q : List Value} : exI E cal Q i P pc ls (.ref x :: .int j :: .ref o :: q) τ c n μ (some (.aastore, l, a, b, w, r)) = ((match τ o with
        | some (.inr (t, N)) => vp_in j N ∧ elOK E τ t x ∧ P (pc + 1) ls q τ c n (mset μ o j.toNatClampNeg (.ref x))
        | _ => False)) := rfl
theorem elOK_4 {E : MEnv} {τ : MTau} {x : Nat} : elOK E τ 4 x = (τ x = some (.inl 0)) := rfl
theorem elOK_6 {E : MEnv} {τ : MTau} {x : Nat} : elOK E τ 6 x = (recv E τ x 12) := rfl
theorem elOK_7 {E : MEnv} {τ : MTau} {x : Nat} : elOK E τ 7 x = (∃ N : Nat, τ x = some (.inr (0, N))) := rfl
theorem elOK_8 {E : MEnv} {τ : MTau} {x : Nat} : elOK E τ 8 x = (τ x = some (.inl 8)) := rfl
theorem e_copy {E : MEnv} {cal : MCal} {Q : MPost} {i : Nat} {P : MP} {pc : Nat} {ls : MLoc} {τ : MTau} {c n : Nat} {μ : MMu} {l b w r : Nat} {k o0 o1 : Nat} {x dp sp : Int32} {q : List Value} : exI E cal Q i P pc ls (.int x :: .int dp :: .ref o1 :: .int sp :: .ref o0 :: q) τ c n μ (some (.invokestatic k, l, 1001, b, w, r)) = (match aget E τ μ o0, τ o1 with
  | some (t0, n0, f0), some (.inr (t1, n1)) => t0 = 2 ∧ t1 = 2 ∧ q.length ≤ 4 ∧ ¬ sp < 0 ∧ ¬ dp < 0 ∧ ¬ x < 0 ∧ sp.toNatClampNeg + x.toNatClampNeg ≤ n0 ∧ dp.toNatClampNeg + x.toNatClampNeg ≤ n1 ∧ (∀ j, j < x.toNatClampNeg → fits .byte (f0 (sp.toNatClampNeg + j)) = true) ∧ P (pc + 3) ls q τ c n (mrow μ o1 (va_cpy f0 (μ o1) sp.toNatClampNeg dp.toNatClampNeg x.toNatClampNeg))
  | _, _ => False) := rfl
theorem e_clone {E : MEnv} {cal : MCal} {Q : MPost} {i : Nat} {P : MP} {pc : Nat} {ls : MLoc} {τ : MTau} {c n : Nat} {μ : MMu} {l b w r : Nat} {k o : Nat} {q : List Value} : exI E cal Q i P pc ls (.ref o :: q) τ c n μ (some (.invokevirtual k, l, 1002, b, w, r)) = (match τ o with
  | some (.inr (2, N)) => q.length ≤ 4 ∧ 1 ≤ c ∧ N ≤ n ∧ (∀ j, j < N → fits .byte (μ o j) = true) ∧ ∀ z : Nat, mfr E τ z → P (pc + 3) ls (.ref z :: q) (tset τ z (.inr (2, N))) (c - 1) (n - N) (mrow μ z (μ o))
  | _ => False) := rfl
theorem e_invV {E : MEnv} {cal : MCal} {Q : MPost} {i : Nat} {P : MP} {pc : Nat} {ls : MLoc} {τ : MTau} {c n : Nat} {μ : MMu} {l a b w r : Nat} {k : Nat} {st : List Value} (ha : (a == 1002) = false) : exI E cal Q i P pc ls st τ c n μ (some (.invokevirtual k, l, a, b, w, r)) = (match popN b [] st with
  | some (As, .ref o :: q) => recv E τ o r ∧ xcall cal (hnd i pc) Q P (pc + 3) ls q τ c n μ a (.ref o :: As)
  | _ => False) := by
  have ha : a ≠ 1002 := by simpa using ha
  show (match a with
    | 1002 => _
    | _ => _) = _
  split
  · exact absurd rfl ha
  · rfl
theorem e_invI {E : MEnv} {cal : MCal} {Q : MPost} {i : Nat} {P : MP} {pc : Nat} {ls : MLoc} {τ : MTau} {c n : Nat} {μ : MMu} {l a b w r : Nat} {k : Nat} {st : List Value} (ha : (a == 1000) = false) : exI E cal Q i P pc ls st τ c n μ (some (.invokespecial k, l, a, b, w, r)) = (match popN b [] st with
  | some (As, .ref o :: q) => τ o = some (.inl r) ∧ xcall cal (hnd i pc) Q P (pc + 3) ls q τ c n μ a (.ref o :: As)
  | _ => False) := by
  have ha : a ≠ 1000 := by simpa using ha
  show (match a with
    | 1000 => _
    | _ => _) = _
  split
  · exact absurd rfl ha
  · rfl
theorem popN_0 {acc st : List Value} : popN 0 acc st = some (acc, st) := rfl
theorem popN_s {n : Nat} {acc st : List Value} {v : Value} : popN (n + 1) acc (v :: st) = popN n (v :: acc) st := rfl
theorem lget_c {j k : Nat} {v : Value} {r : MLoc} : lget ((j, v) :: r) k = if j = k then some v else lget r k := rfl
theorem ldel1_n {k : Nat} : ldel1 k [] = [] := rfl
theorem ldel1_c {j k : Nat} {v : Value} {r : MLoc} : ldel1 k ((j, v) :: r) = if j = k ∨ (j + 1 = k ∧ v.category = 2) then ldel1 k r else (j, v) :: ldel1 k r := rfl
theorem ldel2_n {k : Nat} : ldel2 k [] = [] := rfl
theorem ldel2_c {j k : Nat} {v : Value} {r : MLoc} : ldel2 k ((j, v) :: r) = if j = k ∨ j = k + 1 ∨ (j + 1 = k ∧ v.category = 2) then ldel2 k r else (j, v) :: ldel2 k r := rfl
theorem cat_i {x : Int32} : (Value.int x).category = 1 := rfl
theorem cat_l {x : Int64} : (Value.long x).category = 2 := rfl
theorem cat_d {x : UInt64} : (Value.double x).category = 2 := rfl
theorem cat_r {x : Nat} : (Value.ref x).category = 1 := rfl
theorem cat_n : Value.null.category = 1 := rfl
theorem isI_i {x : Int32} : isI (.int x) = true := rfl
theorem isL_l {x : Int64} : isL (.long x) = true := rfl
theorem isD_d {x : UInt64} : isD (.double x) = true := rfl
theorem isA_r {x : Nat} : isA (.ref x) = true := rfl
theorem isA_n : isA .null = true := rfl
/-- steps at once, up to the stops -/
def RT (E : MEnv) (cal : MCal) (Q : MPost) (i : Nat) (L : List Nat) (P : MP) : Nat → MP
  | 0 => P
  | k + 1 => fun pc ls st τ c n μ => if L.contains pc = true then P pc ls st τ c n μ else exI E cal Q i (RT E cal Q i L P k) pc ls st τ c n μ (COD i pc)
theorem RT_s {E : MEnv} {cal : MCal} {Q : MPost} {i : Nat} {L : List Nat} {P : MP} {k pc : Nat} {ls : MLoc} {st : List Value} {τ : MTau} {c n : Nat} {μ : MMu} : RT E cal Q i L P (k + 1) pc ls st τ c n μ = (if L.contains pc = true then P pc ls st τ c n μ else exI E cal Q i (RT E cal Q i L P k) pc ls st τ c n μ (COD i pc)) := rfl
theorem args_n {k : Nat} : lv_args k [] = [] := rfl
