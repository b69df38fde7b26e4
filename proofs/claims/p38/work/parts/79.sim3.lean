/-! the valley by hand: what comes to its branches -/
def lfN (N t : Nat) : Nat := (pth N t 6 1).getLastD 0
theorem lfN_all : (List.range 33).all (fun N => decide (N < 2) || (List.range 64).all (fun b => gIn N b || !gEx N b || decide (lfN N (fb N b) = b))) = true := by decide +kernel
theorem lfN_at {N b : Nat} (h2 : 2 ≤ N) (h32 : N ≤ 32) (hb : b < 64) (he : gEx N b = true) (hi : gIn N b = false) : lfN N (fb N b) = b := by
  have h := List.all_eq_true.mp lfN_all N (List.mem_range.mpr (by omega))
  rcases Bool.or_eq_true_iff.mp h with h | h
  · exact absurd (of_decide_eq_true h) (by omega)
  · have h := List.all_eq_true.mp h b (List.mem_range.mpr hb)
    rw [hi, he] at h
    simpa using h
def SFr (μ μ' : MMu) (o : Nat) (C : SC) (N : Nat) : Prop := ∀ z, z ≠ o → z ≠ C.2.1 → (∀ b, 1 ≤ b → b < 64 → gEx N b = true → z ≠ C.2.2.2 b) → μ' z = μ z
theorem SFr.rf {μ : MMu} {o N : Nat} {C : SC} : SFr μ μ o C N := fun _ _ _ _ => rfl
theorem SFr.tr {μ μ1 μ2 : MMu} {o N : Nat} {C : SC} (h : SFr μ μ1 o C N) (h' : SFr μ1 μ2 o C N) : SFr μ μ2 o C N := fun z a b c => (h' z a b c).trans (h z a b c)
theorem SM.upd {τ : MTau} {μ μ' : MMu} {o N b : Nat} {C : SC} {V V' : Val} {pu days : Int32} (h : SM τ μ o C N V pu days) (h1 : 1 ≤ b) (hb : b < 64) (he : gEx N b = true) (hV : ∀ c, c ≠ b → V' c = V c) (hm : ∀ z, z ≠ C.2.2.2 b → z ≠ C.2.1 → μ' z = μ z) (hrow : SMR τ μ' (C.2.2.2 b) N b (V' b)) (hba : ∀ c, 1 ≤ c → c < 64 → gEx N c = true → gIn N c = false → μ' C.2.1 (fb N c) = .int (V' c).2.1) : SM τ μ' o C N V' pu days ∧ SFr μ μ' o C N := by
  obtain ⟨t0, f0, f1, f2, f3, f4, f5, tb, ta, hr, hz, hl, hj⟩ := h
  have tr := (hr b h1 hb he).2.1
  have o1 : o ≠ C.2.2.2 b := fun e => by rw [e, tr] at t0; cases t0
  have o2 : o ≠ C.2.1 := fun e => by rw [e, tb] at t0; cases t0
  have a1 : C.2.2.1 ≠ C.2.2.2 b := fun e => by rw [e, tr] at ta; cases ta
  have a2 : C.2.2.1 ≠ C.2.1 := fun e => by rw [e, tb] at ta; cases ta
  refine ⟨⟨t0, ?_, ?_, ?_, ?_, ?_, ?_, tb, ta, fun c c1 c2 ce => ?_, fun c c1 c2 => ?_, hba, hj⟩, fun z z1 z2 z3 => hm z (z3 b h1 hb he) z2⟩
  · rw [hm o o1 o2]; exact f0
  · rw [hm o o1 o2]; exact f1
  · rw [hm o o1 o2]; exact f2
  · rw [hm o o1 o2]; exact f3
  · rw [hm o o1 o2]; exact f4
  · rw [hm o o1 o2]; exact f5
  · rw [hm _ a1 a2]
    refine ⟨(hr c c1 c2 ce).1, ?_⟩
    by_cases e : c = b
    · rw [e]
      exact hrow
    · obtain ⟨r0, r1, r2, r3, r4, r5, r6⟩ := hr c c1 c2 ce
      have n1 : C.2.2.2 c ≠ C.2.2.2 b := fun w => e (hj c b c1 c2 ce h1 hb he w)
      have n2 : C.2.2.2 c ≠ C.2.1 := fun w => by rw [w, tb] at r1; cases r1
      unfold SMR
      rw [hm _ n1 n2, hV c e]
      exact ⟨r1, r2, r3, r4, r5, r6⟩
  · rw [hm _ a1 a2]
    exact hz c c1 c2
theorem SM.ne {τ : MTau} {μ : MMu} {o N b : Nat} {C : SC} {V : Val} {pu days : Int32} (h : SM τ μ o C N V pu days) (h1 : 1 ≤ b) (hb : b < 64) (he : gEx N b = true) : ¬ o = C.2.2.2 b ∧ ¬ C.2.2.1 = C.2.2.2 b ∧ ¬ C.2.1 = C.2.2.2 b ∧ ¬ C.2.2.2 b = C.2.1 ∧ ¬ o = C.2.1 ∧ ¬ C.2.2.1 = C.2.1 := by
  obtain ⟨t0, f0, f1, f2, f3, f4, f5, tb, ta, hr, hz, hl, hj⟩ := h
  have tr := (hr b h1 hb he).2.1
  exact ⟨fun e => (by rw [e, tr] at t0; cases t0), fun e => (by rw [e, tr] at ta; cases ta), fun e => (by rw [e, tr] at tb; cases tb), fun e => (by rw [e, tb] at tr; cases tr), fun e => (by rw [e, tb] at t0; cases t0), fun e => (by rw [e, tb] at ta; cases ta)⟩
def tkV1 (N b : Nat) (g : BS → BS) (V : Val) : Val := fun c => if c = b then g (V b) else V c
theorem w_sLevel {E : MEnv} {d : Nat} {τ : MTau} {μ : MMu} {Q : MPost} {o N b : Nat} {C : SC} {V : Val} {pu days x : Int32} (hd : 1 ≤ d) (h2 : 2 ≤ N) (h32 : N ≤ 32) (h : SM τ μ o C N V pu days) (h1 : 1 ≤ b) (hb : b < 64) (he : gEx N b = true) (hQ : ∀ μ', SM τ μ' o C N (tkV1 N b (tkL (gF N b) (gL N b) x) V) pu days → SFr μ μ' o C N → Q (.inl none) τ μ') : mwp E d 132 [.ref o, .int (nI b), .int x] τ 0 0 μ Q := by
  obtain ⟨t0, f0, f1, f2, f3, f4, f5, tb, ta, hr, hz, hl, hj⟩ := id h
  obtain ⟨r0, r1, r2, r3, r4, ⟨y, r5, r5'⟩, r6, in1, c1⟩ := h.row h2 h32 h1 hb he
  obtain ⟨i0, i1, i2, i3, i4⟩ := ik5
  obtain ⟨k0, k1, k2, k3, k4⟩ := cl5
  obtain ⟨e1, e2, x3, x4, -⟩ := fl_ex h2 h32 hb he
  obtain ⟨n1, n2, n3, n4, n5, n6⟩ := h.ne h1 hb he
  have hlt := geo_lt h2 h32 hb
  have hT : tkV1 N b (tkL (gF N b) (gL N b) x) V b = tkL (gF N b) (gL N b) x (V b) := if_pos rfl
  have hT' : ∀ c, c ≠ b → tkV1 N b (tkL (gF N b) (gL N b) x) V c = V c := fun c hc => if_neg hc
  cases hi : gIn N b with
  | false =>
    have hlf := fl_lf h2 h32 hb he hi
    rw [hlf] at r3
    have in2 : vp_in (nI (fb N b)) 32 := vp_in_nI (by omega) (by omega)
    have c2 : (nI (fb N b)).toNatClampNeg = fb N b := nI_clamp (by omega)
    have hff : ¬ nI (fb N b) < nI (fb N b) := by rw [Int32.lt_iff_toInt_lt]; omega
    obtain ⟨d, rfl⟩ : ∃ d', d = d' + 1 := ⟨d - 1, by omega⟩
    refine ⟨Nat.le_of_ble_eq_true rfl, fun P hP hF => ?_⟩
    refine go hP [] 60 ?_
    simp only [Nat.reduceLT, eq_self, RT_s, elOK_4, elOK_6, elOK_7, elOK_8, List.contains_cons, List.contains_nil, Bool.or_false, Bool.or_true, Bool.false_or, Bool.true_or, Bool.false_eq_true, if_false, if_true, ↓reduceIte, Nat.reduceAdd, Nat.reduceSub, Nat.reduceEqDiff, Nat.reduceBEq, Nat.reduceMul, Nat.reduceLeDiff, e_iconst, e_bipush, e_sipush, e_lconst_0, e_lconst_1, e_aconst_null, e_ldc2_w, e_iload_n_0, e_iload_n_1, e_iload_n_2, e_iload_n_3, e_iload, e_lload_n_0, e_lload_n_1, e_lload_n_2, e_lload_n_3, e_lload, e_dload, e_aload_n_0, e_aload_n_1, e_aload_n_2, e_aload_n_3, e_aload, e_istore_n_0_0, e_istore_n_0_1, e_istore_n_0_2, e_istore_n_0_3, e_istore_0, e_astore_n_0_0, e_astore_n_0_1, e_astore_n_0_2, e_astore_n_0_3, e_astore_n_1_0, e_astore_n_1_1, e_astore_n_1_2, e_astore_n_1_3, e_astore_0, e_astore_1, e_lstore_n_0_0, e_lstore_n_0_1, e_lstore_n_0_2, e_lstore_n_0_3, e_lstore_0, e_dstore_0, e_iadd_0, e_isub_0, e_imul_0, e_idiv_0, e_irem_0, e_ineg_0, e_iand_0, e_ior_0, e_ixor_0, e_ishr_0, e_i2b_0, e_i2c_0, e_i2l_0, e_l2i_0, e_l2d_0, e_i2d_0, e_ladd_0, e_lsub_0, e_lmul_0, e_lcmp_0, e_ddiv_0, e_dcmp_0, e_dup_0, e_dup2_0, e_pop_0, e_goto, e_ifCond_eq, e_ifCond_ne, e_ifCond_lt, e_ifCond_ge, e_ifCond_gt, e_ifCond_le, e_if_icmp_eq, e_if_icmp_ne, e_if_icmp_lt, e_if_icmp_ge, e_if_icmp_gt, e_if_icmp_le, e_ifnull_0, e_ifnull_1, e_ifnonnull_0, e_ifnonnull_1, e_tableswitch_0, e_lookupswitch_0, e_getfield_0, e_putfield_0, e_getstatic, e_newarray_0, e_arraylength_0, e_iaload, e_laload, e_baload, e_iastore_0, e_lastore_0, e_bastore_0, e_ireturn_0, e_lreturn_0, e_dreturn_0, e_areturn_0, e_areturn_1, e_return__0, e_iinc, e_new_0, e_new_1, e_objinit, e_invS, e_ldc_0, e_ldc_1, e_ldc_2, e_ldc_3, e_ldc_4, e_ldc_s, e_ishl_0, e_checkcast_0, e_anewarray_0, e_aaload, e_aastore_0, elOK_4, elOK_6, elOK_7, elOK_8, e_copy, e_clone, e_invV, e_invI, cn_bipush_m37, cn_bipush_m36, cn_bipush_m35, cn_bipush_m34, cn_bipush_m33, cn_bipush_m32, cn_bipush_m31, cn_bipush_m30, cn_bipush_m29, cn_bipush_m26, cn_bipush_m25, cn_bipush_m24, cn_bipush_m23, cn_bipush_m22, cn_bipush_m21, cn_bipush_m16, cn_bipush_m15, cn_bipush_m14, cn_bipush_m13, cn_bipush_m12, cn_bipush_m11, cn_bipush_m10, cn_bipush_m9, cn_bipush_m8, cn_bipush_m7, cn_bipush_m6, cn_bipush_m5, cn_bipush_m4, cn_bipush_m3, cn_bipush_m2, cn_bipush_6, cn_bipush_7, cn_bipush_8, cn_bipush_10, cn_bipush_12, cn_bipush_13, cn_bipush_14, cn_bipush_15, cn_bipush_16, cn_bipush_17, cn_bipush_18, cn_bipush_20, cn_bipush_24, cn_bipush_27, cn_bipush_30, cn_bipush_31, cn_bipush_32, cn_bipush_33, cn_bipush_40, cn_bipush_41, cn_bipush_42, cn_bipush_43, cn_bipush_44, cn_bipush_45, cn_bipush_47, cn_bipush_48, cn_bipush_57, cn_bipush_59, cn_bipush_60, cn_bipush_61, cn_bipush_62, cn_bipush_63, cn_bipush_64, cn_bipush_91, cn_bipush_93, cn_bipush_97, cn_bipush_100, cn_bipush_101, cn_bipush_102, cn_bipush_103, cn_bipush_104, cn_bipush_105, cn_bipush_106, cn_bipush_107, cn_bipush_108, cn_bipush_109, cn_bipush_110, cn_bipush_122, cn_iconst_m8, cn_iconst_m1, cn_iconst_0, cn_iconst_1, cn_iconst_2, cn_iconst_3, cn_iconst_4, cn_iconst_5, cn_iconst_6, cn_sipush_m999, cn_sipush_255, cn_sipush_256, cn_sipush_316, cn_sipush_318, cn_sipush_400, cn_sipush_401, cn_sipush_800, cn_sipush_999, cn_sipush_1980, cn_sipush_2000, cn_bipush_9, cn_bipush_25, cn_bipush_26, cn_bipush_11, cn_bipush_19, cn_bipush_51, cn_bipush_53, cn_sipush_1998, cn_iconst_20, lv_args, xload, lget_c, isI_i, isL_l, isD_d, isA_r, isA_n, true_and, and_true, false_and, and_false, or_false, false_or, fget, aget, xald, popN_0, popN_s, ldel1_n, ldel1_c, ldel2_n, ldel2_c, cat_i, cat_l, cat_d, cat_r, cat_n, mset_ap, pf_i, pf_l, pf_r, pf_n, pf_ar, pf_an, pf_z0, pf_z1, rf_0, rf_10, rf_11, toList_s, toList_n, xback_v, not_true_eq_false, not_false_eq_true, true_implies, forall_const, false_implies, implies_true, i32_11, i32_01, ft_0_0, ft_0_1, ft_0_2, ft_0_3, ft_0_4, ft_0_5, ft_0_6, ft_0_7, ft_0_8, ft_0_9, ft_0_10, fn_0, ft_1_0, ft_1_1, fn_1, ft_2_0, ft_2_1, ft_2_2, ft_2_3, ft_2_4, ft_2_5, fn_2, ft_3_0, ft_3_1, fn_3, ft_4_0, ft_4_1, ft_4_2, ft_4_3, ft_4_4, fn_4, ft_5_0, ft_5_1, ft_5_2, ft_5_3, ft_5_4, ft_5_5, ft_5_6, ft_5_7, ft_5_8, fn_5, ft_6_0, ft_6_1, fn_6, ft_7_0, ft_7_1, ft_7_2, ft_7_3, ft_7_4, ft_7_5, ft_7_6, ft_7_7, ft_7_8, fn_7, ft_8_0, ft_8_1, ft_8_2, ft_8_3, ft_8_4, fn_8, ft_9_0, ft_9_1, ft_9_2, ft_9_3, ft_9_4, ft_9_5, fn_9, ft_10_0, ft_10_1, ft_10_2, ft_10_3, fn_10, ft_11_0, ft_11_1, ft_11_2, ft_11_3, fn_11, ft_12_0, ft_12_1, ft_12_2, ft_12_3, fn_12, k_132_0, k_132_1, k_132_4, k_132_5, k_132_6, k_132_7, k_132_8, k_132_9, k_132_12, k_132_13, k_132_14, k_132_15, k_132_16, k_132_19, k_132_20, k_132_23, k_132_24, k_132_27, k_132_28, k_132_29, k_132_30, k_132_31, k_132_32, k_132_33, k_132_34, k_132_35, k_132_38, k_132_39, k_132_40, k_132_41, k_132_42, k_132_43, k_132_44, k_132_47, k_132_48, k_132_49, k_132_50, k_132_51, k_132_52, k_132_53, k_132_56, k_132_57, k_132_58, k_132_59, k_132_60, k_132_61, t0, f4, f5, ta, tb, in1, c1, r0, r1, i0, i1, k0, k1, r2, r3, in2, c2]
    obtain ⟨g1, g2⟩ := h.upd (μ' := mset μ C.2.1 (fb N b) (.int x)) (V' := tkV1 N b (tkL (gF N b) (gL N b) x) V) h1 hb he hT' (fun z _ hz => mset_ne hz) (by
      unfold SMR
      rw [hT, mset_ne n4, e1, e2, hlf]
      refine ⟨r1, r2, r3, ?_, ⟨y, r5, ?_⟩, ?_⟩
      · unfold tkL; rw [if_neg hff, if_neg hff, if_neg hff]; exact r4
      · unfold tkL; rw [if_neg hff, if_neg hff, if_neg hff]; exact r5'
      · unfold tkL; rw [if_neg hff, if_neg hff, if_neg hff]; exact r6) (fun c c1 c2 ce ci => by
      by_cases e : c = b
      · rw [e, hT]
        simp [mset]
        rfl
      · rw [hT' c e, ← hl c c1 c2 ce ci]
        have : ¬ fb N c = fb N b := fun w => e (by rw [← lfN_at h2 h32 c2 ce ci, w, lfN_at h2 h32 hb he hi])
        simp [mset, this])
    exact hQ _ g1 g2
  | true =>
    obtain ⟨y1, y2, y3, y4, y5⟩ := fl_in h2 h32 hb hi
    have hne : ¬ nI (fb N b) = nI (lb N b) := fun e => by have := (nI_eq (by omega) (by omega)).mp e; omega
    have hnl := hlt.mpr hi
    obtain ⟨d, rfl⟩ : ∃ d', d = d' + 1 := ⟨d - 1, by omega⟩
    refine ⟨Nat.le_of_ble_eq_true rfl, fun P hP hF => ?_⟩
    refine go hP [] 60 ?_
    simp only [Nat.reduceLT, eq_self, RT_s, elOK_4, elOK_6, elOK_7, elOK_8, List.contains_cons, List.contains_nil, Bool.or_false, Bool.or_true, Bool.false_or, Bool.true_or, Bool.false_eq_true, if_false, if_true, ↓reduceIte, Nat.reduceAdd, Nat.reduceSub, Nat.reduceEqDiff, Nat.reduceBEq, Nat.reduceMul, Nat.reduceLeDiff, e_iconst, e_bipush, e_sipush, e_lconst_0, e_lconst_1, e_aconst_null, e_ldc2_w, e_iload_n_0, e_iload_n_1, e_iload_n_2, e_iload_n_3, e_iload, e_lload_n_0, e_lload_n_1, e_lload_n_2, e_lload_n_3, e_lload, e_dload, e_aload_n_0, e_aload_n_1, e_aload_n_2, e_aload_n_3, e_aload, e_istore_n_0_0, e_istore_n_0_1, e_istore_n_0_2, e_istore_n_0_3, e_istore_0, e_astore_n_0_0, e_astore_n_0_1, e_astore_n_0_2, e_astore_n_0_3, e_astore_n_1_0, e_astore_n_1_1, e_astore_n_1_2, e_astore_n_1_3, e_astore_0, e_astore_1, e_lstore_n_0_0, e_lstore_n_0_1, e_lstore_n_0_2, e_lstore_n_0_3, e_lstore_0, e_dstore_0, e_iadd_0, e_isub_0, e_imul_0, e_idiv_0, e_irem_0, e_ineg_0, e_iand_0, e_ior_0, e_ixor_0, e_ishr_0, e_i2b_0, e_i2c_0, e_i2l_0, e_l2i_0, e_l2d_0, e_i2d_0, e_ladd_0, e_lsub_0, e_lmul_0, e_lcmp_0, e_ddiv_0, e_dcmp_0, e_dup_0, e_dup2_0, e_pop_0, e_goto, e_ifCond_eq, e_ifCond_ne, e_ifCond_lt, e_ifCond_ge, e_ifCond_gt, e_ifCond_le, e_if_icmp_eq, e_if_icmp_ne, e_if_icmp_lt, e_if_icmp_ge, e_if_icmp_gt, e_if_icmp_le, e_ifnull_0, e_ifnull_1, e_ifnonnull_0, e_ifnonnull_1, e_tableswitch_0, e_lookupswitch_0, e_getfield_0, e_putfield_0, e_getstatic, e_newarray_0, e_arraylength_0, e_iaload, e_laload, e_baload, e_iastore_0, e_lastore_0, e_bastore_0, e_ireturn_0, e_lreturn_0, e_dreturn_0, e_areturn_0, e_areturn_1, e_return__0, e_iinc, e_new_0, e_new_1, e_objinit, e_invS, e_ldc_0, e_ldc_1, e_ldc_2, e_ldc_3, e_ldc_4, e_ldc_s, e_ishl_0, e_checkcast_0, e_anewarray_0, e_aaload, e_aastore_0, elOK_4, elOK_6, elOK_7, elOK_8, e_copy, e_clone, e_invV, e_invI, cn_bipush_m37, cn_bipush_m36, cn_bipush_m35, cn_bipush_m34, cn_bipush_m33, cn_bipush_m32, cn_bipush_m31, cn_bipush_m30, cn_bipush_m29, cn_bipush_m26, cn_bipush_m25, cn_bipush_m24, cn_bipush_m23, cn_bipush_m22, cn_bipush_m21, cn_bipush_m16, cn_bipush_m15, cn_bipush_m14, cn_bipush_m13, cn_bipush_m12, cn_bipush_m11, cn_bipush_m10, cn_bipush_m9, cn_bipush_m8, cn_bipush_m7, cn_bipush_m6, cn_bipush_m5, cn_bipush_m4, cn_bipush_m3, cn_bipush_m2, cn_bipush_6, cn_bipush_7, cn_bipush_8, cn_bipush_10, cn_bipush_12, cn_bipush_13, cn_bipush_14, cn_bipush_15, cn_bipush_16, cn_bipush_17, cn_bipush_18, cn_bipush_20, cn_bipush_24, cn_bipush_27, cn_bipush_30, cn_bipush_31, cn_bipush_32, cn_bipush_33, cn_bipush_40, cn_bipush_41, cn_bipush_42, cn_bipush_43, cn_bipush_44, cn_bipush_45, cn_bipush_47, cn_bipush_48, cn_bipush_57, cn_bipush_59, cn_bipush_60, cn_bipush_61, cn_bipush_62, cn_bipush_63, cn_bipush_64, cn_bipush_91, cn_bipush_93, cn_bipush_97, cn_bipush_100, cn_bipush_101, cn_bipush_102, cn_bipush_103, cn_bipush_104, cn_bipush_105, cn_bipush_106, cn_bipush_107, cn_bipush_108, cn_bipush_109, cn_bipush_110, cn_bipush_122, cn_iconst_m8, cn_iconst_m1, cn_iconst_0, cn_iconst_1, cn_iconst_2, cn_iconst_3, cn_iconst_4, cn_iconst_5, cn_iconst_6, cn_sipush_m999, cn_sipush_255, cn_sipush_256, cn_sipush_316, cn_sipush_318, cn_sipush_400, cn_sipush_401, cn_sipush_800, cn_sipush_999, cn_sipush_1980, cn_sipush_2000, cn_bipush_9, cn_bipush_25, cn_bipush_26, cn_bipush_11, cn_bipush_19, cn_bipush_51, cn_bipush_53, cn_sipush_1998, cn_iconst_20, lv_args, xload, lget_c, isI_i, isL_l, isD_d, isA_r, isA_n, true_and, and_true, false_and, and_false, or_false, false_or, fget, aget, xald, popN_0, popN_s, ldel1_n, ldel1_c, ldel2_n, ldel2_c, cat_i, cat_l, cat_d, cat_r, cat_n, mset_ap, pf_i, pf_l, pf_r, pf_n, pf_ar, pf_an, pf_z0, pf_z1, rf_0, rf_10, rf_11, toList_s, toList_n, xback_v, not_true_eq_false, not_false_eq_true, true_implies, forall_const, false_implies, implies_true, i32_11, i32_01, ft_0_0, ft_0_1, ft_0_2, ft_0_3, ft_0_4, ft_0_5, ft_0_6, ft_0_7, ft_0_8, ft_0_9, ft_0_10, fn_0, ft_1_0, ft_1_1, fn_1, ft_2_0, ft_2_1, ft_2_2, ft_2_3, ft_2_4, ft_2_5, fn_2, ft_3_0, ft_3_1, fn_3, ft_4_0, ft_4_1, ft_4_2, ft_4_3, ft_4_4, fn_4, ft_5_0, ft_5_1, ft_5_2, ft_5_3, ft_5_4, ft_5_5, ft_5_6, ft_5_7, ft_5_8, fn_5, ft_6_0, ft_6_1, fn_6, ft_7_0, ft_7_1, ft_7_2, ft_7_3, ft_7_4, ft_7_5, ft_7_6, ft_7_7, ft_7_8, fn_7, ft_8_0, ft_8_1, ft_8_2, ft_8_3, ft_8_4, fn_8, ft_9_0, ft_9_1, ft_9_2, ft_9_3, ft_9_4, ft_9_5, fn_9, ft_10_0, ft_10_1, ft_10_2, ft_10_3, fn_10, ft_11_0, ft_11_1, ft_11_2, ft_11_3, fn_11, ft_12_0, ft_12_1, ft_12_2, ft_12_3, fn_12, k_132_0, k_132_1, k_132_4, k_132_5, k_132_6, k_132_7, k_132_8, k_132_9, k_132_12, k_132_13, k_132_14, k_132_15, k_132_16, k_132_19, k_132_20, k_132_23, k_132_24, k_132_27, k_132_28, k_132_29, k_132_30, k_132_31, k_132_32, k_132_33, k_132_34, k_132_35, k_132_38, k_132_39, k_132_40, k_132_41, k_132_42, k_132_43, k_132_44, k_132_47, k_132_48, k_132_49, k_132_50, k_132_51, k_132_52, k_132_53, k_132_56, k_132_57, k_132_58, k_132_59, k_132_60, k_132_61, t0, f4, f5, ta, tb, in1, c1, r0, r1, i0, i1, i2, i3, i4, k0, k1, k2, k3, k4, r2, r3, hne, n1, n2]
    obtain ⟨g1, g2⟩ := h.upd (μ' := mset (mset (mset μ (C.2.2.2 b) 2 (.int 1)) (C.2.2.2 b) 3 (.int x)) (C.2.2.2 b) 4 (.int 0)) (V' := tkV1 N b (tkL (gF N b) (gL N b) x) V) h1 hb he hT' (fun z hz _ => by rw [mset_ne hz, mset_ne hz, mset_ne hz]) (by
      unfold SMR
      rw [hT, e1, e2]
      rw [e1, e2] at hnl
      unfold tkL
      rw [if_pos hnl, if_pos hnl, if_pos hnl]
      refine ⟨r1, ?_, ?_, ?_, ⟨x, ?_, fun _ => rfl⟩, ?_⟩
      · simp [mset, r2]
      · simp [mset, r3]
      · simp [mset]
      · simp [mset]
      · simp [mset]) (fun c c1 c2 ce ci => by
      have e : c ≠ b := fun e => by rw [e, hi] at ci; cases ci
      rw [hT' c e, ← hl c c1 c2 ce ci, mset_ne n3, mset_ne n3, mset_ne n3])
    exact hQ _ g1 g2
theorem w_sRain {E : MEnv} {d : Nat} {τ : MTau} {μ : MMu} {Q : MPost} {o N b : Nat} {C : SC} {V : Val} {pu days x : Int32} (hd : 1 ≤ d) (h2 : 2 ≤ N) (h32 : N ≤ 32) (h : SM τ μ o C N V pu days) (h1 : 1 ≤ b) (hb : b < 64) (he : gEx N b = true) (hQ : ∀ μ', SM τ μ' o C N (tkV1 N b (tkR (gF N b) (gL N b) x) V) pu days → SFr μ μ' o C N → Q (.inl none) τ μ') : mwp E d 133 [.ref o, .int (nI b), .int x] τ 0 0 μ Q := by
  obtain ⟨t0, f0, f1, f2, f3, f4, f5, tb, ta, hr, hz, hl, hj⟩ := id h
  obtain ⟨r0, r1, r2, r3, r4, ⟨y, r5, r5'⟩, r6, in1, c1⟩ := h.row h2 h32 h1 hb he
  obtain ⟨i0, i1, i2, i3, i4⟩ := ik5
  obtain ⟨k0, k1, k2, k3, k4⟩ := cl5
  obtain ⟨e1, e2, x3, x4, -⟩ := fl_ex h2 h32 hb he
  obtain ⟨n1, n2, n3, n4, n5, n6⟩ := h.ne h1 hb he
  have hlt := geo_lt h2 h32 hb
  have hT : tkV1 N b (tkR (gF N b) (gL N b) x) V b = tkR (gF N b) (gL N b) x (V b) := if_pos rfl
  have hT' : ∀ c, c ≠ b → tkV1 N b (tkR (gF N b) (gL N b) x) V c = V c := fun c hc => if_neg hc
  cases hi : gIn N b with
  | false =>
    have hlf := fl_lf h2 h32 hb he hi
    rw [hlf] at r3
    have in2 : vp_in (nI (fb N b)) 32 := vp_in_nI (by omega) (by omega)
    have c2 : (nI (fb N b)).toNatClampNeg = fb N b := nI_clamp (by omega)
    have hv := hl b h1 hb he hi
    obtain ⟨d, rfl⟩ : ∃ d', d = d' + 1 := ⟨d - 1, by omega⟩
    refine ⟨Nat.le_of_ble_eq_true rfl, fun P hP hF => ?_⟩
    refine go hP [] 60 ?_
    simp only [Nat.reduceLT, eq_self, RT_s, elOK_4, elOK_6, elOK_7, elOK_8, List.contains_cons, List.contains_nil, Bool.or_false, Bool.or_true, Bool.false_or, Bool.true_or, Bool.false_eq_true, if_false, if_true, ↓reduceIte, Nat.reduceAdd, Nat.reduceSub, Nat.reduceEqDiff, Nat.reduceBEq, Nat.reduceMul, Nat.reduceLeDiff, e_iconst, e_bipush, e_sipush, e_lconst_0, e_lconst_1, e_aconst_null, e_ldc2_w, e_iload_n_0, e_iload_n_1, e_iload_n_2, e_iload_n_3, e_iload, e_lload_n_0, e_lload_n_1, e_lload_n_2, e_lload_n_3, e_lload, e_dload, e_aload_n_0, e_aload_n_1, e_aload_n_2, e_aload_n_3, e_aload, e_istore_n_0_0, e_istore_n_0_1, e_istore_n_0_2, e_istore_n_0_3, e_istore_0, e_astore_n_0_0, e_astore_n_0_1, e_astore_n_0_2, e_astore_n_0_3, e_astore_n_1_0, e_astore_n_1_1, e_astore_n_1_2, e_astore_n_1_3, e_astore_0, e_astore_1, e_lstore_n_0_0, e_lstore_n_0_1, e_lstore_n_0_2, e_lstore_n_0_3, e_lstore_0, e_dstore_0, e_iadd_0, e_isub_0, e_imul_0, e_idiv_0, e_irem_0, e_ineg_0, e_iand_0, e_ior_0, e_ixor_0, e_ishr_0, e_i2b_0, e_i2c_0, e_i2l_0, e_l2i_0, e_l2d_0, e_i2d_0, e_ladd_0, e_lsub_0, e_lmul_0, e_lcmp_0, e_ddiv_0, e_dcmp_0, e_dup_0, e_dup2_0, e_pop_0, e_goto, e_ifCond_eq, e_ifCond_ne, e_ifCond_lt, e_ifCond_ge, e_ifCond_gt, e_ifCond_le, e_if_icmp_eq, e_if_icmp_ne, e_if_icmp_lt, e_if_icmp_ge, e_if_icmp_gt, e_if_icmp_le, e_ifnull_0, e_ifnull_1, e_ifnonnull_0, e_ifnonnull_1, e_tableswitch_0, e_lookupswitch_0, e_getfield_0, e_putfield_0, e_getstatic, e_newarray_0, e_arraylength_0, e_iaload, e_laload, e_baload, e_iastore_0, e_lastore_0, e_bastore_0, e_ireturn_0, e_lreturn_0, e_dreturn_0, e_areturn_0, e_areturn_1, e_return__0, e_iinc, e_new_0, e_new_1, e_objinit, e_invS, e_ldc_0, e_ldc_1, e_ldc_2, e_ldc_3, e_ldc_4, e_ldc_s, e_ishl_0, e_checkcast_0, e_anewarray_0, e_aaload, e_aastore_0, elOK_4, elOK_6, elOK_7, elOK_8, e_copy, e_clone, e_invV, e_invI, cn_bipush_m37, cn_bipush_m36, cn_bipush_m35, cn_bipush_m34, cn_bipush_m33, cn_bipush_m32, cn_bipush_m31, cn_bipush_m30, cn_bipush_m29, cn_bipush_m26, cn_bipush_m25, cn_bipush_m24, cn_bipush_m23, cn_bipush_m22, cn_bipush_m21, cn_bipush_m16, cn_bipush_m15, cn_bipush_m14, cn_bipush_m13, cn_bipush_m12, cn_bipush_m11, cn_bipush_m10, cn_bipush_m9, cn_bipush_m8, cn_bipush_m7, cn_bipush_m6, cn_bipush_m5, cn_bipush_m4, cn_bipush_m3, cn_bipush_m2, cn_bipush_6, cn_bipush_7, cn_bipush_8, cn_bipush_10, cn_bipush_12, cn_bipush_13, cn_bipush_14, cn_bipush_15, cn_bipush_16, cn_bipush_17, cn_bipush_18, cn_bipush_20, cn_bipush_24, cn_bipush_27, cn_bipush_30, cn_bipush_31, cn_bipush_32, cn_bipush_33, cn_bipush_40, cn_bipush_41, cn_bipush_42, cn_bipush_43, cn_bipush_44, cn_bipush_45, cn_bipush_47, cn_bipush_48, cn_bipush_57, cn_bipush_59, cn_bipush_60, cn_bipush_61, cn_bipush_62, cn_bipush_63, cn_bipush_64, cn_bipush_91, cn_bipush_93, cn_bipush_97, cn_bipush_100, cn_bipush_101, cn_bipush_102, cn_bipush_103, cn_bipush_104, cn_bipush_105, cn_bipush_106, cn_bipush_107, cn_bipush_108, cn_bipush_109, cn_bipush_110, cn_bipush_122, cn_iconst_m8, cn_iconst_m1, cn_iconst_0, cn_iconst_1, cn_iconst_2, cn_iconst_3, cn_iconst_4, cn_iconst_5, cn_iconst_6, cn_sipush_m999, cn_sipush_255, cn_sipush_256, cn_sipush_316, cn_sipush_318, cn_sipush_400, cn_sipush_401, cn_sipush_800, cn_sipush_999, cn_sipush_1980, cn_sipush_2000, cn_bipush_9, cn_bipush_25, cn_bipush_26, cn_bipush_11, cn_bipush_19, cn_bipush_51, cn_bipush_53, cn_sipush_1998, cn_iconst_20, lv_args, xload, lget_c, isI_i, isL_l, isD_d, isA_r, isA_n, true_and, and_true, false_and, and_false, or_false, false_or, fget, aget, xald, popN_0, popN_s, ldel1_n, ldel1_c, ldel2_n, ldel2_c, cat_i, cat_l, cat_d, cat_r, cat_n, mset_ap, pf_i, pf_l, pf_r, pf_n, pf_ar, pf_an, pf_z0, pf_z1, rf_0, rf_10, rf_11, toList_s, toList_n, xback_v, not_true_eq_false, not_false_eq_true, true_implies, forall_const, false_implies, implies_true, i32_11, i32_01, ft_0_0, ft_0_1, ft_0_2, ft_0_3, ft_0_4, ft_0_5, ft_0_6, ft_0_7, ft_0_8, ft_0_9, ft_0_10, fn_0, ft_1_0, ft_1_1, fn_1, ft_2_0, ft_2_1, ft_2_2, ft_2_3, ft_2_4, ft_2_5, fn_2, ft_3_0, ft_3_1, fn_3, ft_4_0, ft_4_1, ft_4_2, ft_4_3, ft_4_4, fn_4, ft_5_0, ft_5_1, ft_5_2, ft_5_3, ft_5_4, ft_5_5, ft_5_6, ft_5_7, ft_5_8, fn_5, ft_6_0, ft_6_1, fn_6, ft_7_0, ft_7_1, ft_7_2, ft_7_3, ft_7_4, ft_7_5, ft_7_6, ft_7_7, ft_7_8, fn_7, ft_8_0, ft_8_1, ft_8_2, ft_8_3, ft_8_4, fn_8, ft_9_0, ft_9_1, ft_9_2, ft_9_3, ft_9_4, ft_9_5, fn_9, ft_10_0, ft_10_1, ft_10_2, ft_10_3, fn_10, ft_11_0, ft_11_1, ft_11_2, ft_11_3, fn_11, ft_12_0, ft_12_1, ft_12_2, ft_12_3, fn_12, k_133_0, k_133_1, k_133_4, k_133_5, k_133_6, k_133_7, k_133_8, k_133_9, k_133_12, k_133_13, k_133_14, k_133_15, k_133_16, k_133_19, k_133_20, k_133_23, k_133_24, k_133_27, k_133_28, k_133_29, k_133_30, k_133_31, k_133_32, k_133_33, k_133_34, k_133_35, k_133_36, k_133_39, k_133_40, k_133_43, k_133_44, k_133_45, k_133_46, k_133_47, k_133_48, k_133_49, k_133_50, k_133_51, t0, f4, f5, ta, tb, in1, c1, r0, r1, i0, i1, k0, k1, r2, r3, in2, c2, hv]
    obtain ⟨g1, g2⟩ := h.upd (μ' := mset μ C.2.1 (fb N b) (.int ((V b).2.1 + x))) (V' := tkV1 N b (tkR (gF N b) (gL N b) x) V) h1 hb he hT' (fun z _ hz => mset_ne hz) (by
      unfold SMR
      rw [hT, mset_ne n4, e1, e2, hlf]
      refine ⟨r1, r2, r3, r4, ⟨y, r5, r5'⟩, ?_⟩
      unfold tkR; rw [if_neg (by rw [Int32.lt_iff_toInt_lt]; omega)]; exact r6) (fun c c1 c2 ce ci => by
      by_cases e : c = b
      · rw [e, hT]
        simp [mset]
        rfl
      · rw [hT' c e, ← hl c c1 c2 ce ci]
        have : ¬ fb N c = fb N b := fun w => e (by rw [← lfN_at h2 h32 c2 ce ci, w, lfN_at h2 h32 hb he hi])
        simp [mset, this])
    exact hQ _ g1 g2
  | true =>
    obtain ⟨y1, y2, y3, y4, y5⟩ := fl_in h2 h32 hb hi
    have hne : ¬ nI (fb N b) = nI (lb N b) := fun e => by have := (nI_eq (by omega) (by omega)).mp e; omega
    have hnl := hlt.mpr hi
    obtain ⟨d, rfl⟩ : ∃ d', d = d' + 1 := ⟨d - 1, by omega⟩
    refine ⟨Nat.le_of_ble_eq_true rfl, fun P hP hF => ?_⟩
    refine go hP [] 60 ?_
    simp only [Nat.reduceLT, eq_self, RT_s, elOK_4, elOK_6, elOK_7, elOK_8, List.contains_cons, List.contains_nil, Bool.or_false, Bool.or_true, Bool.false_or, Bool.true_or, Bool.false_eq_true, if_false, if_true, ↓reduceIte, Nat.reduceAdd, Nat.reduceSub, Nat.reduceEqDiff, Nat.reduceBEq, Nat.reduceMul, Nat.reduceLeDiff, e_iconst, e_bipush, e_sipush, e_lconst_0, e_lconst_1, e_aconst_null, e_ldc2_w, e_iload_n_0, e_iload_n_1, e_iload_n_2, e_iload_n_3, e_iload, e_lload_n_0, e_lload_n_1, e_lload_n_2, e_lload_n_3, e_lload, e_dload, e_aload_n_0, e_aload_n_1, e_aload_n_2, e_aload_n_3, e_aload, e_istore_n_0_0, e_istore_n_0_1, e_istore_n_0_2, e_istore_n_0_3, e_istore_0, e_astore_n_0_0, e_astore_n_0_1, e_astore_n_0_2, e_astore_n_0_3, e_astore_n_1_0, e_astore_n_1_1, e_astore_n_1_2, e_astore_n_1_3, e_astore_0, e_astore_1, e_lstore_n_0_0, e_lstore_n_0_1, e_lstore_n_0_2, e_lstore_n_0_3, e_lstore_0, e_dstore_0, e_iadd_0, e_isub_0, e_imul_0, e_idiv_0, e_irem_0, e_ineg_0, e_iand_0, e_ior_0, e_ixor_0, e_ishr_0, e_i2b_0, e_i2c_0, e_i2l_0, e_l2i_0, e_l2d_0, e_i2d_0, e_ladd_0, e_lsub_0, e_lmul_0, e_lcmp_0, e_ddiv_0, e_dcmp_0, e_dup_0, e_dup2_0, e_pop_0, e_goto, e_ifCond_eq, e_ifCond_ne, e_ifCond_lt, e_ifCond_ge, e_ifCond_gt, e_ifCond_le, e_if_icmp_eq, e_if_icmp_ne, e_if_icmp_lt, e_if_icmp_ge, e_if_icmp_gt, e_if_icmp_le, e_ifnull_0, e_ifnull_1, e_ifnonnull_0, e_ifnonnull_1, e_tableswitch_0, e_lookupswitch_0, e_getfield_0, e_putfield_0, e_getstatic, e_newarray_0, e_arraylength_0, e_iaload, e_laload, e_baload, e_iastore_0, e_lastore_0, e_bastore_0, e_ireturn_0, e_lreturn_0, e_dreturn_0, e_areturn_0, e_areturn_1, e_return__0, e_iinc, e_new_0, e_new_1, e_objinit, e_invS, e_ldc_0, e_ldc_1, e_ldc_2, e_ldc_3, e_ldc_4, e_ldc_s, e_ishl_0, e_checkcast_0, e_anewarray_0, e_aaload, e_aastore_0, elOK_4, elOK_6, elOK_7, elOK_8, e_copy, e_clone, e_invV, e_invI, cn_bipush_m37, cn_bipush_m36, cn_bipush_m35, cn_bipush_m34, cn_bipush_m33, cn_bipush_m32, cn_bipush_m31, cn_bipush_m30, cn_bipush_m29, cn_bipush_m26, cn_bipush_m25, cn_bipush_m24, cn_bipush_m23, cn_bipush_m22, cn_bipush_m21, cn_bipush_m16, cn_bipush_m15, cn_bipush_m14, cn_bipush_m13, cn_bipush_m12, cn_bipush_m11, cn_bipush_m10, cn_bipush_m9, cn_bipush_m8, cn_bipush_m7, cn_bipush_m6, cn_bipush_m5, cn_bipush_m4, cn_bipush_m3, cn_bipush_m2, cn_bipush_6, cn_bipush_7, cn_bipush_8, cn_bipush_10, cn_bipush_12, cn_bipush_13, cn_bipush_14, cn_bipush_15, cn_bipush_16, cn_bipush_17, cn_bipush_18, cn_bipush_20, cn_bipush_24, cn_bipush_27, cn_bipush_30, cn_bipush_31, cn_bipush_32, cn_bipush_33, cn_bipush_40, cn_bipush_41, cn_bipush_42, cn_bipush_43, cn_bipush_44, cn_bipush_45, cn_bipush_47, cn_bipush_48, cn_bipush_57, cn_bipush_59, cn_bipush_60, cn_bipush_61, cn_bipush_62, cn_bipush_63, cn_bipush_64, cn_bipush_91, cn_bipush_93, cn_bipush_97, cn_bipush_100, cn_bipush_101, cn_bipush_102, cn_bipush_103, cn_bipush_104, cn_bipush_105, cn_bipush_106, cn_bipush_107, cn_bipush_108, cn_bipush_109, cn_bipush_110, cn_bipush_122, cn_iconst_m8, cn_iconst_m1, cn_iconst_0, cn_iconst_1, cn_iconst_2, cn_iconst_3, cn_iconst_4, cn_iconst_5, cn_iconst_6, cn_sipush_m999, cn_sipush_255, cn_sipush_256, cn_sipush_316, cn_sipush_318, cn_sipush_400, cn_sipush_401, cn_sipush_800, cn_sipush_999, cn_sipush_1980, cn_sipush_2000, cn_bipush_9, cn_bipush_25, cn_bipush_26, cn_bipush_11, cn_bipush_19, cn_bipush_51, cn_bipush_53, cn_sipush_1998, cn_iconst_20, lv_args, xload, lget_c, isI_i, isL_l, isD_d, isA_r, isA_n, true_and, and_true, false_and, and_false, or_false, false_or, fget, aget, xald, popN_0, popN_s, ldel1_n, ldel1_c, ldel2_n, ldel2_c, cat_i, cat_l, cat_d, cat_r, cat_n, mset_ap, pf_i, pf_l, pf_r, pf_n, pf_ar, pf_an, pf_z0, pf_z1, rf_0, rf_10, rf_11, toList_s, toList_n, xback_v, not_true_eq_false, not_false_eq_true, true_implies, forall_const, false_implies, implies_true, i32_11, i32_01, ft_0_0, ft_0_1, ft_0_2, ft_0_3, ft_0_4, ft_0_5, ft_0_6, ft_0_7, ft_0_8, ft_0_9, ft_0_10, fn_0, ft_1_0, ft_1_1, fn_1, ft_2_0, ft_2_1, ft_2_2, ft_2_3, ft_2_4, ft_2_5, fn_2, ft_3_0, ft_3_1, fn_3, ft_4_0, ft_4_1, ft_4_2, ft_4_3, ft_4_4, fn_4, ft_5_0, ft_5_1, ft_5_2, ft_5_3, ft_5_4, ft_5_5, ft_5_6, ft_5_7, ft_5_8, fn_5, ft_6_0, ft_6_1, fn_6, ft_7_0, ft_7_1, ft_7_2, ft_7_3, ft_7_4, ft_7_5, ft_7_6, ft_7_7, ft_7_8, fn_7, ft_8_0, ft_8_1, ft_8_2, ft_8_3, ft_8_4, fn_8, ft_9_0, ft_9_1, ft_9_2, ft_9_3, ft_9_4, ft_9_5, fn_9, ft_10_0, ft_10_1, ft_10_2, ft_10_3, fn_10, ft_11_0, ft_11_1, ft_11_2, ft_11_3, fn_11, ft_12_0, ft_12_1, ft_12_2, ft_12_3, fn_12, k_133_0, k_133_1, k_133_4, k_133_5, k_133_6, k_133_7, k_133_8, k_133_9, k_133_12, k_133_13, k_133_14, k_133_15, k_133_16, k_133_19, k_133_20, k_133_23, k_133_24, k_133_27, k_133_28, k_133_29, k_133_30, k_133_31, k_133_32, k_133_33, k_133_34, k_133_35, k_133_36, k_133_39, k_133_40, k_133_43, k_133_44, k_133_45, k_133_46, k_133_47, k_133_48, k_133_49, k_133_50, k_133_51, t0, f4, f5, ta, tb, in1, c1, r0, r1, i0, i1, i2, i3, i4, k0, k1, k2, k3, k4, r2, r3, hne, n1, n2, r6]
    obtain ⟨g1, g2⟩ := h.upd (μ' := mset μ (C.2.2.2 b) 4 (.int ((V b).2.2.2.1 + x))) (V' := tkV1 N b (tkR (gF N b) (gL N b) x) V) h1 hb he hT' (fun z hz _ => mset_ne hz) (by
      unfold SMR
      rw [hT, e1, e2]
      rw [e1, e2] at hnl
      unfold tkR
      rw [if_pos hnl]
      refine ⟨r1, ?_, ?_, ?_, ⟨y, ?_, r5'⟩, ?_⟩
      · simp [mset, r2]
      · simp [mset, r3]
      · simp [mset, r4]
      · simp [mset, r5]
      · simp [mset]) (fun c c1 c2 ce ci => by
      have e : c ≠ b := fun e => by rw [e, hi] at ci; cases ci
      rw [hT' c e, ← hl c c1 c2 ce ci, mset_ne n3])
    exact hQ _ g1 g2
