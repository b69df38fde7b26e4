/-! the law's trees: made of a number; their texts -/
def blw (v : Int32) (n : Nat) : Nat := (v.toBitVec.toNat % 2 ^ 31) % n
theorem blw_lt {v : Int32} {n : Nat} (h : 0 < n) : blw v n < n := Nat.mod_lt _ h
def kdS (x : Int32) (dp : Nat) : Nat := if blw x 20 < 6 ∨ (1 < dp ∧ 11 < blw x 20) then 0 else if blw x 20 < 12 then 1 + blw x 20 % 6 else 7 + blw x 20 % 8
def nmS (x : Int32) : Nat := blw (x >>> 3) (if blw (x >>> 7) 5 = 0 then 1000000 else 40)
def kdT (x : Int32) (dp : Nat) : Nat := if blw (x >>> 1) 11 < 7 ∨ 1 < dp then 20 + blw (x >>> 1) 11 % 5 else 26 + blw (x >>> 1) 11 % 3
def kdG (ty : Bool) (x : Int32) (dp : Nat) : Nat := if ty = true then kdT x dp else kdS x dp
def nmG (ty : Bool) (x : Int32) : Nat := if ty = true then 0 else nmS x
def chA (ty : Bool) (x : Int32) (dp : Nat) : Bool × Int32 := if ty = true then (if kdT x dp < 25 then (false, x * 3 + 7) else (true, x * 3 + 5)) else (false, x * 3 + 1)
def chB (ty : Bool) (x : Int32) (dp : Nat) : Bool × Int32 := if ty = true then (if kdT x dp < 25 then (false, x * 5 + 1) else (true, x * 7 + 3)) else (false, x * 5 + 2)
/-- what is reckoned over a tree -/
def fld {α : Type} (f : Nat → Nat → α → α → α) (z : α) : Nat → Bool → Int32 → Nat → α
  | 0, _, _, _ => z
  | k + 1, ty, x, dp => f (kdG ty x dp) (nmG ty x) (fld f z k (chA ty x dp).1 (chA ty x dp).2 (dp + 1)) (fld f z k (chB ty x dp).1 (chB ty x dp).2 (dp + 1))
/-- a tree in the heap -/
def GT (τ : MTau) (μ : MMu) : Nat → Bool → Int32 → Nat → Nat → Prop
  | 0, _, _, _, _ => False
  | k + 1, ty, x, dp, o => τ o = some (.inl 10) ∧ μ o 0 = .int (nI (kdG ty x dp)) ∧ μ o 1 = .int (nI (nmG ty x)) ∧ (7 ≤ kdG ty x dp → ∃ a, μ o 2 = .ref a ∧ GT τ μ k (chA ty x dp).1 (chA ty x dp).2 (dp + 1) a) ∧ (9 ≤ kdG ty x dp → kdG ty x dp ≠ 26 → ∃ b, μ o 3 = .ref b ∧ GT τ μ k (chB ty x dp).1 (chB ty x dp).2 (dp + 1) b)
theorem GT.cl {τ : MTau} {μ : MMu} {k : Nat} {ty : Bool} {x : Int32} {dp o : Nat} (h : GT τ μ k ty x dp o) : τ o = some (.inl 10) := by
  cases k with
  | zero => exact h.elim
  | succ k => exact h.1
theorem GT.keep {τ τ' : MTau} {μ μ' : MMu} (hT : ∀ z, τ z = some (.inl 10) → τ' z = some (.inl 10) ∧ ∀ j, μ' z j = μ z j) : ∀ (k : Nat) (ty : Bool) (x : Int32) (dp o : Nat), GT τ μ k ty x dp o → GT τ' μ' k ty x dp o
  | 0, _, _, _, _, h => h
  | k + 1, ty, x, dp, o, h => by
    obtain ⟨h1, h2, h3, h4, h5⟩ := h
    obtain ⟨g1, g2⟩ := hT o h1
    refine ⟨g1, by rw [g2]; exact h2, by rw [g2]; exact h3, fun h => ?_, fun h h' => ?_⟩
    · obtain ⟨a, a1, a2⟩ := h4 h
      exact ⟨a, by rw [g2]; exact a1, GT.keep hT k _ _ _ _ a2⟩
    · obtain ⟨a, a1, a2⟩ := h5 h h'
      exact ⟨a, by rw [g2]; exact a1, GT.keep hT k _ _ _ _ a2⟩
theorem GT.ext {E : MEnv} {τ τ' : MTau} {μ μ' : MMu} (hN : NW E τ μ τ' μ') {k : Nat} {ty : Bool} {x : Int32} {dp o : Nat} (h : GT τ μ k ty x dp o) : GT τ' μ' k ty x dp o := GT.keep (fun z hz => hN.cls hz) k ty x dp o h
theorem kdS_ok (x : Int32) (dp : Nat) : kdS x dp < 15 ∧ (1 < dp → kdS x dp < 7) := by
  have h := blw_lt (v := x) (n := 20) (by omega)
  unfold kdS
  split
  · exact ⟨by omega, fun _ => by omega⟩
  · rename_i h1
    split
    · exact ⟨by omega, fun _ => by omega⟩
    · exact ⟨by omega, fun h2 => absurd (Or.inr ⟨h2, by omega⟩) h1⟩
theorem kdT_ok (x : Int32) (dp : Nat) : ((20 ≤ kdT x dp ∧ kdT x dp < 25) ∨ (26 ≤ kdT x dp ∧ kdT x dp < 29)) ∧ (1 < dp → kdT x dp < 25) := by
  unfold kdT
  split
  · exact ⟨Or.inl ⟨by omega, by omega⟩, fun _ => by omega⟩
  · rename_i h1
    exact ⟨Or.inr ⟨by omega, by omega⟩, fun h2 => absurd (Or.inr h2) h1⟩
theorem kdG_ok (ty : Bool) (x : Int32) (dp : Nat) : kdG ty x dp < 15 ∨ (20 ≤ kdG ty x dp ∧ kdG ty x dp < 25) ∨ (26 ≤ kdG ty x dp ∧ kdG ty x dp < 29) := by
  unfold kdG
  cases ty
  · exact Or.inl (kdS_ok x dp).1
  · exact Or.inr (kdT_ok x dp).1
theorem nmG_ok (ty : Bool) (x : Int32) : nmG ty x < 1000000 := by
  unfold nmG nmS
  cases ty
  · simp only [Bool.false_eq_true, if_false]
    split
    · exact blw_lt (by omega)
    · exact Nat.lt_trans (blw_lt (by omega)) (by omega)
  · simp
theorem lsb_sg : ∀ j, j < 6 → (lsb (11 + j)).length ≤ 4 := by decide +kernel
theorem lsb_cp : ∀ j, j < 5 → (lsb (17 + j)).length ≤ 2 := by decide +kernel
theorem nodeTx_leaf {k n : Nat} {ta tb : List Nat} (h : k < 7) : (nodeTx k n ta tb).length ≤ 9 := by
  unfold nodeTx
  have h1 := dig_le n
  have h2 : (lsb 22).length = 1 := rfl
  split
  · rw [List.length_append]; omega
  · exact lsb_le _
theorem nodeTx_cmp {k n : Nat} {ta tb : List Nat} (h1 : 20 ≤ k) (h2 : k < 25) : (nodeTx k n ta tb).length ≤ ta.length + tb.length + 2 := by
  unfold nodeTx
  have h3 := lsb_cp (k - 20) (by omega)
  rw [if_neg (by omega), if_neg (by omega), if_neg (by omega), if_neg (by omega), if_neg (by omega), if_pos h2]
  simp only [List.length_append]
  omega
theorem nodeTx_len {k n : Nat} {ta tb : List Nat} (h : k < 15 ∨ (20 ≤ k ∧ k < 25) ∨ (26 ≤ k ∧ k < 29)) : (nodeTx k n ta tb).length ≤ ta.length + tb.length + 9 := by
  by_cases h7 : k < 7
  · have := nodeTx_leaf (n := n) (ta := ta) (tb := tb) h7
    omega
  · by_cases h25 : 20 ≤ k ∧ k < 25
    · have := nodeTx_cmp (n := n) (ta := ta) (tb := tb) h25.1 h25.2
      omega
    · have e25 : (lsb 25).length = 1 := rfl
      have e23 : (lsb 23).length = 7 := rfl
      have e24 : (lsb 24).length = 3 := rfl
      have e26 : (lsb 26).length = 1 := rfl
      have e27 : (lsb 27).length = 1 := rfl
      have e28 : (lsb 28).length = 4 := rfl
      have e29 : (lsb 29).length = 1 := rfl
      have e30 : (lsb 30).length = 1 := rfl
      have e31 : (lsb 31).length = 3 := rfl
      have e32 : (lsb 32).length = 2 := rfl
      have hs : k < 15 → 9 ≤ k → (lsb (11 + (k - 9))).length ≤ 4 := fun h h' => lsb_sg _ (by omega)
      unfold nodeTx
      rw [if_neg (by omega), if_neg h7]
      split
      · simp only [List.length_append]
        split <;> omega
      · split
        · have := hs (by omega) (by omega)
          simp only [List.length_append]
          have h9 : (lsb (11 + (k - 9))).length ≤ 4 := this
          omega
        · split
          · have := hs (by omega) (by omega)
            simp only [List.length_append]
            omega
          · rw [if_neg (by omega)]
            split
            · simp only [List.length_append]
              omega
            · simp only [List.length_append]
              split <;> omega
theorem fldS_len : ∀ f (x : Int32) (dp : Nat), 2 ≤ dp → (fld nodeTx [] f false x dp).length ≤ 9
  | 0, _, _, _ => by simp [fld]
  | f + 1, x, dp, h => nodeTx_leaf ((kdS_ok x dp).2 (by omega))
theorem fldT_len : ∀ f (x : Int32) (dp : Nat), 2 ≤ dp → (fld nodeTx [] f true x dp).length ≤ 20
  | 0, _, _, _ => by simp [fld]
  | f + 1, x, dp, h => by
    have h1 := (kdT_ok x dp).1
    have h2 := (kdT_ok x dp).2 (by omega)
    have e : kdG true x dp = kdT x dp := rfl
    have ea : chA true x dp = (false, x * 3 + 7) := by unfold chA; rw [if_pos rfl, if_pos h2]
    have eb : chB true x dp = (false, x * 5 + 1) := by unfold chB; rw [if_pos rfl, if_pos h2]
    rw [fld, ea, eb, e]
    have a1 := fldS_len f (x * 3 + 7) (dp + 1) (by omega)
    have a2 := fldS_len f (x * 5 + 1) (dp + 1) (by omega)
    have := nodeTx_cmp (k := kdT x dp) (n := nmG true x) (ta := fld nodeTx [] f false (x * 3 + 7) (dp + 1)) (tb := fld nodeTx [] f false (x * 5 + 1) (dp + 1)) (by omega) h2
    dsimp only
    omega
theorem fldG_len (f : Nat) (ty : Bool) (x : Int32) (dp : Nat) (h : 2 ≤ dp) : (fld nodeTx [] f ty x dp).length ≤ 20 := by
  cases ty
  · exact Nat.le_trans (fldS_len f x dp h) (by omega)
  · exact fldT_len f x dp h
/-- the text of any tree is short -/
theorem fld_len (f : Nat) (ty : Bool) (x : Int32) (dp : Nat) (h : 1 ≤ dp) : (fld nodeTx [] f ty x dp).length ≤ 49 := by
  cases f with
  | zero => simp [fld]
  | succ f =>
    rw [fld]
    have a1 := fldG_len f (chA ty x dp).1 (chA ty x dp).2 (dp + 1) (by omega)
    have a2 := fldG_len f (chB ty x dp).1 (chB ty x dp).2 (dp + 1) (by omega)
    have := nodeTx_len (n := nmG ty x) (ta := fld nodeTx [] f (chA ty x dp).1 (chA ty x dp).2 (dp + 1)) (tb := fld nodeTx [] f (chB ty x dp).1 (chB ty x dp).2 (dp + 1)) (kdG_ok ty x dp)
    omega
def txC : Nat → Nat
  | 0 => 0
  | f + 1 => 24 + 2 * txC f
def txN : Nat → Nat
  | 0 => 0
  | f + 1 => 6500 + 2 * txN f
/-- Tree.text -/
theorem w_text {E : MEnv} : ∀ (f d : Nat) (τ : MTau) (μ : MMu) (ty : Bool) (x : Int32) (dp o : Nat), 1 ≤ dp → 8 + f ≤ d → JE E τ → LTX E τ → GT τ μ f ty x dp o → TXS E d (txC f) (txN f) τ μ o (fld nodeTx [] f ty x dp)
  | 0, _, _, _, _, _, _, _, _, _, _, _, h => h.elim
  | f + 1, d, τ0, μ0, ty, x, dp, o, hdp, hd, hJ0, hL0, hG0 => by
    intro τ μ Q hN0 hQ
    have hJ := hJ0.step hN0.1
    have hL := hL0.ext hN0.1
    obtain ⟨ho, h0, h1, hA, hB⟩ := hG0.ext hN0
    obtain ⟨d, rfl⟩ : ∃ d', d = d' + 1 := ⟨d - 1, by omega⟩
    refine ⟨Nat.le_of_ble_eq_true rfl, fun P hP hF => ?_⟩
    refine tx_arr hP hL (by rw [txC]; omega) (by rw [txN]; omega) fun τ1 μ1 a1 a2 a3 hN r1 r2 r3 => ?_
    have hJ1 := hJ.step hN.1
    have hL1 := hL.ext hN.1
    have ho1 := (hN.cls ho).1
    have h01 := ((hN.cls ho).2 0).trans h0
    have h11 := ((hN.cls ho).2 1).trans h1
    have hA1 : 7 ≤ kdG ty x dp → ∃ a, μ1 o 2 = .ref a ∧ τ1 a = some (.inl 10) ∧ TXS E d (txC f) (txN f) τ1 μ1 a (fld nodeTx [] f (chA ty x dp).1 (chA ty x dp).2 (dp + 1)) := fun h => by
      obtain ⟨a, b1, b2⟩ := hA h
      exact ⟨a, ((hN.cls ho).2 2).trans b1, (hN.cls b2.cl).1, w_text f d τ1 μ1 _ _ _ _ (by omega) (by omega) hJ1 hL1 (b2.ext hN)⟩
    have hB1 : 9 ≤ kdG ty x dp → kdG ty x dp ≠ 26 → ∃ a, μ1 o 3 = .ref a ∧ τ1 a = some (.inl 10) ∧ TXS E d (txC f) (txN f) τ1 μ1 a (fld nodeTx [] f (chB ty x dp).1 (chB ty x dp).2 (dp + 1)) := fun h h' => by
      obtain ⟨a, b1, b2⟩ := hB h h'
      exact ⟨a, ((hN.cls ho).2 3).trans b1, (hN.cls b2.cl).1, w_text f d τ1 μ1 _ _ _ _ (by omega) (by omega) hJ1 hL1 (b2.ext hN)⟩
    have la := Nat.le_trans (fldG_len f (chA ty x dp).1 (chA ty x dp).2 (dp + 1) (by omega)) (show 20 ≤ 24 by omega)
    have lb := Nat.le_trans (fldG_len f (chB ty x dp).1 (chB ty x dp).2 (dp + 1) (by omega)) (show 20 ≤ 24 by omega)
    have hc : 20 + 2 * txC f ≤ txC (f + 1) - 3 := by rw [txC]; omega
    have hn : 6400 + 2 * txN f ≤ txN (f + 1) - 18 := by rw [txN]; omega
    have hnum := nmG_ok ty x
    have hQ1 : ∀ τ' μ' s sb, SV E τ' μ' s sb (nodeTx (kdG ty x dp) (nmG ty x) (fld nodeTx [] f (chA ty x dp).1 (chA ty x dp).2 (dp + 1)) (fld nodeTx [] f (chB ty x dp).1 (chB ty x dp).2 (dp + 1))) → τ1 sb = none → NW E τ1 μ1 τ' μ' → Q (.inl (some (.ref s))) τ' μ' := fun τ' μ' s sb q1 q2 q3 => hQ τ' μ' s sb q1 (hN.1.nn2 q2) (hN.trans q3)
    have hk := kdG_ok ty x dp
    generalize kdG ty x dp = k at *
    by_cases k0 : k = 0
    · exact tx_num (by omega) hP hJ1 hL1 ho1 h01 h11 hnum hA1 hB1 la lb hc hn r1 r2 r3 hQ1 k0
    · by_cases k7 : k < 7
      · have f0 : ¬ nI k = 0 := nI_ne0 (by omega) (by omega)
        have f7 : nI k < 7 := nI_lt (b := 7) k7 (by omega)
        obtain ⟨s, sb, e1, e2, e3⟩ := hL1.at (k := 4 + k) (by omega)
        have in1 : vp_in (nI k) 7 := vp_in_nI k7 (by omega)
        have c1 : (nI k).toNatClampNeg = k := nI_clamp (by omega)
        have m1 : μ1 a1 k = .ref s := by rw [r1.2 k k7, ← e1, Nat.add_assoc]
        have t1 := r1.1
        refine go hP [] 60 ?_
        simp only [Nat.reduceLT, eq_self, RT_s, elOK_4, elOK_6, elOK_7, elOK_8, List.contains_cons, List.contains_nil, Bool.or_false, Bool.or_true, Bool.false_or, Bool.true_or, Bool.false_eq_true, if_false, if_true, ↓reduceIte, Nat.reduceAdd, Nat.reduceSub, Nat.reduceEqDiff, Nat.reduceBEq, Nat.reduceMul, Nat.reduceLeDiff, e_iconst, e_bipush, e_sipush, e_lconst_0, e_lconst_1, e_aconst_null, e_ldc2_w, e_iload_n_0, e_iload_n_1, e_iload_n_2, e_iload_n_3, e_iload, e_lload_n_0, e_lload_n_1, e_lload_n_2, e_lload_n_3, e_lload, e_dload, e_aload_n_0, e_aload_n_1, e_aload_n_2, e_aload_n_3, e_aload, e_istore_n_0_0, e_istore_n_0_1, e_istore_n_0_2, e_istore_n_0_3, e_istore_0, e_astore_n_0_0, e_astore_n_0_1, e_astore_n_0_2, e_astore_n_0_3, e_astore_n_1_0, e_astore_n_1_1, e_astore_n_1_2, e_astore_n_1_3, e_astore_0, e_astore_1, e_lstore_n_0_0, e_lstore_n_0_1, e_lstore_n_0_2, e_lstore_n_0_3, e_lstore_0, e_dstore_0, e_iadd_0, e_isub_0, e_imul_0, e_idiv_0, e_irem_0, e_ineg_0, e_iand_0, e_ior_0, e_ixor_0, e_ishr_0, e_i2b_0, e_i2c_0, e_i2l_0, e_l2i_0, e_l2d_0, e_i2d_0, e_ladd_0, e_lsub_0, e_lmul_0, e_lcmp_0, e_ddiv_0, e_dcmp_0, e_dup_0, e_dup2_0, e_pop_0, e_goto, e_ifCond_eq, e_ifCond_ne, e_ifCond_lt, e_ifCond_ge, e_ifCond_gt, e_ifCond_le, e_if_icmp_eq, e_if_icmp_ne, e_if_icmp_lt, e_if_icmp_ge, e_if_icmp_gt, e_if_icmp_le, e_ifnull_0, e_ifnull_1, e_ifnonnull_0, e_ifnonnull_1, e_tableswitch_0, e_lookupswitch_0, e_getfield_0, e_putfield_0, e_getstatic, e_newarray_0, e_arraylength_0, e_iaload, e_laload, e_baload, e_iastore_0, e_lastore_0, e_bastore_0, e_ireturn_0, e_lreturn_0, e_dreturn_0, e_areturn_0, e_areturn_1, e_return__0, e_iinc, e_new_0, e_new_1, e_objinit, e_invS, e_ldc_0, e_ldc_1, e_ldc_2, e_ldc_3, e_ldc_4, e_ldc_s, e_ishl_0, e_checkcast_0, e_anewarray_0, e_aaload, e_aastore_0, elOK_4, elOK_6, elOK_7, elOK_8, e_copy, e_clone, e_invV, e_invI, cn_bipush_m37, cn_bipush_m36, cn_bipush_m35, cn_bipush_m34, cn_bipush_m33, cn_bipush_m32, cn_bipush_m31, cn_bipush_m30, cn_bipush_m29, cn_bipush_m26, cn_bipush_m25, cn_bipush_m24, cn_bipush_m23, cn_bipush_m22, cn_bipush_m21, cn_bipush_m16, cn_bipush_m15, cn_bipush_m14, cn_bipush_m13, cn_bipush_m12, cn_bipush_m11, cn_bipush_m10, cn_bipush_m9, cn_bipush_m8, cn_bipush_m7, cn_bipush_m6, cn_bipush_m5, cn_bipush_m4, cn_bipush_m3, cn_bipush_m2, cn_bipush_6, cn_bipush_7, cn_bipush_8, cn_bipush_10, cn_bipush_12, cn_bipush_13, cn_bipush_14, cn_bipush_15, cn_bipush_16, cn_bipush_17, cn_bipush_18, cn_bipush_20, cn_bipush_24, cn_bipush_27, cn_bipush_30, cn_bipush_31, cn_bipush_32, cn_bipush_33, cn_bipush_40, cn_bipush_41, cn_bipush_42, cn_bipush_43, cn_bipush_44, cn_bipush_45, cn_bipush_47, cn_bipush_48, cn_bipush_57, cn_bipush_59, cn_bipush_60, cn_bipush_61, cn_bipush_62, cn_bipush_63, cn_bipush_64, cn_bipush_91, cn_bipush_93, cn_bipush_97, cn_bipush_100, cn_bipush_101, cn_bipush_102, cn_bipush_103, cn_bipush_104, cn_bipush_105, cn_bipush_106, cn_bipush_107, cn_bipush_108, cn_bipush_109, cn_bipush_110, cn_bipush_122, cn_iconst_m8, cn_iconst_m1, cn_iconst_0, cn_iconst_1, cn_iconst_2, cn_iconst_3, cn_iconst_4, cn_iconst_5, cn_iconst_6, cn_sipush_m999, cn_sipush_255, cn_sipush_256, cn_sipush_316, cn_sipush_318, cn_sipush_400, cn_sipush_401, cn_sipush_800, cn_sipush_999, cn_sipush_1980, cn_sipush_2000, cn_bipush_9, cn_bipush_25, cn_bipush_26, cn_bipush_11, cn_bipush_19, cn_bipush_51, cn_bipush_53, cn_sipush_1998, cn_iconst_20, lv_args, xload, lget_c, isI_i, isL_l, isD_d, isA_r, isA_n, true_and, and_true, false_and, and_false, or_false, false_or, fget, aget, xald, popN_0, popN_s, ldel1_n, ldel1_c, ldel2_n, ldel2_c, cat_i, cat_l, cat_d, cat_r, cat_n, mset_ap, pf_i, pf_l, pf_r, pf_n, pf_ar, pf_an, pf_z0, pf_z1, rf_0, rf_10, rf_11, toList_s, toList_n, xback_v, not_true_eq_false, not_false_eq_true, true_implies, forall_const, false_implies, implies_true, i32_11, i32_01, ft_0_0, ft_0_1, ft_0_2, ft_0_3, ft_0_4, ft_0_5, ft_0_6, ft_0_7, ft_0_8, ft_0_9, ft_0_10, fn_0, ft_1_0, ft_1_1, fn_1, ft_2_0, ft_2_1, ft_2_2, ft_2_3, ft_2_4, ft_2_5, fn_2, ft_3_0, ft_3_1, fn_3, ft_4_0, ft_4_1, ft_4_2, ft_4_3, ft_4_4, fn_4, ft_5_0, ft_5_1, ft_5_2, ft_5_3, ft_5_4, ft_5_5, ft_5_6, ft_5_7, ft_5_8, fn_5, ft_6_0, ft_6_1, fn_6, ft_7_0, ft_7_1, ft_7_2, ft_7_3, ft_7_4, ft_7_5, ft_7_6, ft_7_7, ft_7_8, fn_7, ft_8_0, ft_8_1, ft_8_2, ft_8_3, ft_8_4, fn_8, ft_9_0, ft_9_1, ft_9_2, ft_9_3, ft_9_4, ft_9_5, fn_9, ft_10_0, ft_10_1, ft_10_2, ft_10_3, fn_10, ft_11_0, ft_11_1, ft_11_2, ft_11_3, fn_11, ft_12_0, ft_12_1, ft_12_2, ft_12_3, fn_12, k_142_0, k_142_2, k_142_5, k_142_6, k_142_7, k_142_9, k_142_10, k_142_11, k_142_12, k_142_14, k_142_15, k_142_16, k_142_17, k_142_19, k_142_20, k_142_21, k_142_22, k_142_24, k_142_25, k_142_26, k_142_27, k_142_29, k_142_30, k_142_31, k_142_32, k_142_34, k_142_35, k_142_36, k_142_38, k_142_40, k_142_41, k_142_42, k_142_44, k_142_47, k_142_48, k_142_49, k_142_51, k_142_52, k_142_53, k_142_54, k_142_56, k_142_57, k_142_58, k_142_59, k_142_61, k_142_62, k_142_63, k_142_64, k_142_66, k_142_67, k_142_68, k_142_69, k_142_71, k_142_72, k_142_73, k_142_74, k_142_76, k_142_77, k_142_78, k_142_79, k_142_82, k_142_83, k_142_84, k_142_86, k_142_87, k_142_88, k_142_89, k_142_91, k_142_92, k_142_93, k_142_94, k_142_96, k_142_97, k_142_98, k_142_99, k_142_101, k_142_102, k_142_103, k_142_104, k_142_106, k_142_107, k_142_108, k_142_109, k_142_112, k_142_115, k_142_118, k_142_119, k_142_122, k_142_124, k_142_127, k_142_128, k_142_131, k_142_134, k_142_136, k_142_139, k_142_142, k_142_143, k_142_144, k_142_147, k_142_149, k_142_152, k_142_153, k_142_154, k_142_157, k_142_158, k_142_159, k_142_160, k_142_163, k_142_165, k_142_168, k_142_171, k_142_172, k_142_175, k_142_176, k_142_179, k_142_181, k_142_184, k_142_186, k_142_189, k_142_191, k_142_194, k_142_195, k_142_198, k_142_201, k_142_204, k_142_206, k_142_209, k_142_212, k_142_213, k_142_214, k_142_217, k_142_219, k_142_222, k_142_225, k_142_226, k_142_229, k_142_231, k_142_234, k_142_235, k_142_238, k_142_241, k_142_244, k_142_246, k_142_249, k_142_250, k_142_251, k_142_254, k_142_256, k_142_257, k_142_258, k_142_261, k_142_263, k_142_266, k_142_267, k_142_270, k_142_273, k_142_276, k_142_278, k_142_281, k_142_284, k_142_285, k_142_286, k_142_289, k_142_291, k_142_294, k_142_297, k_142_298, k_142_301, k_142_302, k_142_303, k_142_306, k_142_308, k_142_309, k_142_310, k_142_313, k_142_314, k_142_317, k_142_320, k_142_323, k_142_325, k_142_328, k_142_329, k_142_332, k_142_335, k_142_338, k_142_340, k_142_343, k_142_346, k_142_347, k_142_348, k_142_351, k_142_353, k_142_356, k_142_359, k_142_360, k_142_363, k_142_364, k_142_367, k_142_370, k_142_373, k_142_374, k_142_375, k_142_378, k_142_380, k_142_381, k_142_382, k_142_385, k_142_386, k_142_389, k_142_392, k_142_395, k_142_398, k_142_399, k_142_400, k_142_403, k_142_405, k_142_408, k_142_411, k_142_412, k_142_415, k_142_417, k_142_420, k_142_421, k_142_424, k_142_427, k_142_430, k_142_432, k_142_435, k_142_438, k_142_441, k_142_444, k_142_445, k_142_448, k_142_450, k_142_453, k_142_454, k_142_457, k_142_460, k_142_463, k_142_465, k_142_468, k_142_469, k_142_472, k_142_474, k_142_477, k_142_479, k_142_482, k_142_484, k_142_487, k_142_489, k_142_492, k_142_493, k_142_496, k_142_499, k_142_502, k_142_504, k_142_507, k_142_510, ho1, h01, f0, f7, t1, in1, c1, m1]
        refine hQ1 τ1 μ1 s sb ?_ e2 NW.rfl'
        unfold nodeTx
        rw [if_neg k0, if_pos k7]
        exact e3 μ1
      · by_cases k8 : k = 7
        · exact tx_one7 (by omega) hP hJ1 hL1 ho1 h01 h11 hnum hA1 hB1 la lb hc hn r1 r2 r3 hQ1 k8
        · by_cases k9 : k = 8
          · exact tx_one8 (by omega) hP hJ1 hL1 ho1 h01 h11 hnum hA1 hB1 la lb hc hn r1 r2 r3 hQ1 k9
          · by_cases k13 : k < 13
            · exact tx_bin (by omega) hP hJ1 hL1 ho1 h01 h11 hnum hA1 hB1 la lb hc hn r1 r2 r3 hQ1 (by omega) k13
            · by_cases k15 : k < 15
              · exact tx_mm (by omega) hP hJ1 hL1 ho1 h01 h11 hnum hA1 hB1 la lb hc hn r1 r2 r3 hQ1 (by omega) k15
              · by_cases k25 : k < 25
                · exact tx_cmp (by omega) hP hJ1 hL1 ho1 h01 h11 hnum hA1 hB1 la lb hc hn r1 r2 r3 hQ1 (by omega) k25
                · by_cases k26 : k = 26
                  · exact tx_not (by omega) hP hJ1 hL1 ho1 h01 h11 hnum hA1 hB1 la lb hc hn r1 r2 r3 hQ1 k26
                  · by_cases k27 : k = 27
                    · exact tx_log27 (by omega) hP hJ1 hL1 ho1 h01 h11 hnum hA1 hB1 la lb hc hn r1 r2 r3 hQ1 k27
                    · exact tx_log28 (by omega) hP hJ1 hL1 ho1 h01 h11 hnum hA1 hB1 la lb hc hn r1 r2 r3 hQ1 (by omega)
