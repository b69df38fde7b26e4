/-! the law's trees, read back -/
theorem nI_nn {n : Nat} (h : n < 1000000) : ¬ nI n < 0 := nI_pos (by omega)
theorem prs_sum {T : Nat → Int32} : ∀ (f L : Nat) (x : Int32) (dp p : Nat), 1 ≤ dp → (if dp ≤ 1 then 2 else 1) ≤ f → 2 * f ≤ L → At T p (tkF f false x dp) → isStop (T (p + (tkF f false x dp).length)) = true → (lvP T L).1.2 p = (some (cdF f false x dp), p + (tkF f false x dp).length)
  | 0, _, _, dp, _, _, h, _, _, _ => by
    split at h <;> omega
  | f + 1, L, x, dp, p, hdp, hf, hL, hA, hs => by
    obtain ⟨L, rfl⟩ : ∃ l, L = l + 1 + 1 := ⟨L - 2, by omega⟩
    show pchn T (pchn T (pval T (lvP T (L + 1)).1.1 (lvP T (L + 1)).1.2) (jn 3)) (jn 2) p = _
    have IH := fun L' y p' => prs_sum (T := T) f L' y (dp + 1) p'
    have hk := (kdS_ok x dp).1
    have hk1 := (kdS_ok x dp).2
    have ek : kdG false x dp = kdS x dp := rfl
    have hnm := nmG_ok false x
    rw [tkF_s] at hA hs ⊢
    rw [cdF_s]
    have ea : chA false x dp = (false, x * 3 + 1) := rfl
    have eb : chB false x dp = (false, x * 5 + 2) := rfl
    rw [ea, eb] at hA hs ⊢
    rw [ek] at hA hs ⊢
    have hfd : 7 ≤ kdS x dp → (if dp + 1 ≤ 1 then 2 else 1) ≤ f := fun h7 => by
      have : dp = 1 := by
        by_cases h : 1 < dp
        · have := hk1 h
          omega
        · omega
      subst this
      simpa using hf
    generalize kdS x dp = k at *
    generalize nmG false x = nm at *
    have IHa : 7 ≤ k → ∀ L' p', 2 * f ≤ L' → At T p' (tkF f false (x * 3 + 1) (dp + 1)) → isStop (T (p' + (tkF f false (x * 3 + 1) (dp + 1)).length)) = true → (lvP T L').1.2 p' = (some (cdF f false (x * 3 + 1) (dp + 1)), p' + (tkF f false (x * 3 + 1) (dp + 1)).length) := fun h7 L' p' => IH L' (x * 3 + 1) p' (by omega) (hfd h7)
    have IHb : 7 ≤ k → ∀ L' p', 2 * f ≤ L' → At T p' (tkF f false (x * 5 + 2) (dp + 1)) → isStop (T (p' + (tkF f false (x * 5 + 2) (dp + 1)).length)) = true → (lvP T L').1.2 p' = (some (cdF f false (x * 5 + 2) (dp + 1)), p' + (tkF f false (x * 5 + 2) (dp + 1)).length) := fun h7 L' p' => IH L' (x * 5 + 2) p' (by omega) (hfd h7)
    clear IH
    show pchn T (pchn T (pval T (lvP T (L + 1)).1.1 (lvP T (L + 1)).1.2) (jn 3)) (jn 2) p = (some (nodeCd k nm (cdF f false (x * 3 + 1) (dp + 1)) (cdF f false (x * 5 + 2) (dp + 1))), p + (nodeTk k nm (tkF f false (x * 3 + 1) (dp + 1)) (tkF f false (x * 5 + 2) (dp + 1))).length)
    replace hA : At T p (nodeTk k nm (tkF f false (x * 3 + 1) (dp + 1)) (tkF f false (x * 5 + 2) (dp + 1))) := hA
    replace hs : isStop (T (p + (nodeTk k nm (tkF f false (x * 3 + 1) (dp + 1)) (tkF f false (x * 5 + 2) (dp + 1))).length)) = true := hs
    generalize tkF f false (x * 3 + 1) (dp + 1) = a at *
    generalize tkF f false (x * 5 + 2) (dp + 1) = b at *
    generalize cdF f false (x * 3 + 1) (dp + 1) = ca at *
    generalize cdF f false (x * 5 + 2) (dp + 1) = cb at *
    by_cases h0 : k < 7
    · have e : ∃ t, nodeTk k nm a b = [t] ∧ nodeCd k nm ca cb = [t] ∧ (¬ t < 0 ∨ isRd t = true) := by
        by_cases h : k = 0
        · refine ⟨nI nm, ?_, ?_, Or.inl (nI_nn hnm)⟩
          · unfold nodeTk; rw [if_pos h]
          · unfold nodeCd; rw [if_pos h]
        · refine ⟨cod k, ?_, ?_, Or.inr ?_⟩
          · unfold nodeTk; rw [if_neg h, if_pos h0]
          · unfold nodeCd; rw [if_neg h, if_pos h0]
          · have : k = 1 ∨ k = 2 ∨ k = 3 ∨ k = 4 ∨ k = 5 ∨ k = 6 := by omega
            rcases this with rfl | rfl | rfl | rfl | rfl | rfl <;> decide
      obtain ⟨t, e1, e2, e3⟩ := e
      rw [e1] at hA hs ⊢
      rw [e2]
      obtain ⟨tp, -⟩ := hA.cons
      refine sum_0 ?_ hs
      rw [pval_1 (by rw [tp]; exact e3), tp]
      rfl
    · have hk7 : 7 ≤ k := by omega
      have n0 : ¬ k = 0 := by omega
      have n26 : ¬ k = 26 := by omega
      have st8 : isStop (-8) = true := by decide
      have st12 : isStop (-12) = true := by decide
      by_cases h7 : k = 7
      · subst h7
        have e1 : nodeTk 7 nm a b = -22 :: -7 :: (a ++ [-8]) := rfl
        have e2 : nodeCd 7 nm ca cb = ca ++ [-22] := rfl
        have hl : p + (-22 :: -7 :: (a ++ [-8]) : List Int32).length = p + 1 + 1 + a.length + 1 := by
          simp only [List.length_append, List.length_cons, List.length_nil]; omega
        rw [e1] at hA hs ⊢
        rw [hl] at hs ⊢
        rw [e2]
        obtain ⟨t1, hA⟩ := hA.cons
        obtain ⟨t2, hA⟩ := hA.cons
        obtain ⟨A1, hA⟩ := hA.app
        obtain ⟨t3, -⟩ := hA.cons
        exact sum_0 (pval_ht t1 t2 (IHa hk7 _ _ (by omega) A1 (by rw [t3]; exact st8)) t3) hs
      by_cases h8 : k = 8
      · subst h8
        have e1 : nodeTk 8 nm a b = -30 :: -7 :: (a ++ [-8]) := rfl
        have e2 : nodeCd 8 nm ca cb = ca ++ [-24] := rfl
        have hl : p + (-30 :: -7 :: (a ++ [-8]) : List Int32).length = p + 1 + 1 + a.length + 1 := by
          simp only [List.length_append, List.length_cons, List.length_nil]; omega
        rw [e1] at hA hs ⊢
        rw [hl] at hs ⊢
        rw [e2]
        obtain ⟨t1, hA⟩ := hA.cons
        obtain ⟨t2, hA⟩ := hA.cons
        obtain ⟨A1, hA⟩ := hA.app
        obtain ⟨t3, -⟩ := hA.cons
        refine sum_0 (pval_ng t1 ?_) hs
        show pval T (lvP T L).1.1 (lvP T L).1.2 (p + 1) = _
        exact pval_br t2 (IHa hk7 _ _ (by omega) A1 (by rw [t3]; exact st8)) t3
      by_cases h13 : k < 13
      · have e1 : nodeTk k nm a b = -7 :: (a ++ (-8 :: cod k :: -7 :: (b ++ [-8]))) := by
          unfold nodeTk
          rw [if_neg n0, if_neg h0, if_neg h7, if_neg h8, if_pos h13]
        have e2 : nodeCd k nm ca cb = ca ++ (cb ++ [cod k]) := by
          unfold nodeCd
          rw [if_neg n0, if_neg h0, if_neg (show ¬ k < 9 by omega), if_neg n26]
        have hl : p + (-7 :: (a ++ (-8 :: cod k :: -7 :: (b ++ [-8]))) : List Int32).length = p + 1 + a.length + 1 + 1 + 1 + b.length + 1 := by
          simp only [List.length_append, List.length_cons, List.length_nil]; omega
        rw [e1] at hA hs ⊢
        rw [hl] at hs ⊢
        rw [e2]
        obtain ⟨t1, hA⟩ := hA.cons
        obtain ⟨A1, hA⟩ := hA.app
        obtain ⟨t2, hA⟩ := hA.cons
        obtain ⟨t3, hA⟩ := hA.cons
        obtain ⟨t4, hA⟩ := hA.cons
        obtain ⟨A2, hA⟩ := hA.app
        obtain ⟨t5, -⟩ := hA.cons
        refine sum_1 (pval_br t1 (IHa hk7 _ _ (by omega) A1 (by rw [t2]; exact st8)) t2) t3 ?_ (pval_br t4 (IHb hk7 _ _ (by omega) A2 (by rw [t5]; exact st8)) t5) hs
        have : k = 9 ∨ k = 10 ∨ k = 11 ∨ k = 12 := by omega
        rcases this with rfl | rfl | rfl | rfl <;> decide
      · have e1 : nodeTk k nm a b = cod k :: -7 :: (a ++ (-12 :: (b ++ [-8]))) := by
          unfold nodeTk
          rw [if_neg n0, if_neg h0, if_neg h7, if_neg h8, if_neg h13, if_pos hk]
        have e2 : nodeCd k nm ca cb = ca ++ (cb ++ [cod k]) := by
          unfold nodeCd
          rw [if_neg n0, if_neg h0, if_neg (show ¬ k < 9 by omega), if_neg n26]
        have hl : p + (cod k :: -7 :: (a ++ (-12 :: (b ++ [-8]))) : List Int32).length = p + 1 + 1 + a.length + 1 + b.length + 1 := by
          simp only [List.length_append, List.length_cons, List.length_nil]; omega
        rw [e1] at hA hs ⊢
        rw [hl] at hs ⊢
        rw [e2]
        obtain ⟨t1, hA⟩ := hA.cons
        obtain ⟨t2, hA⟩ := hA.cons
        obtain ⟨A1, hA⟩ := hA.app
        obtain ⟨t3, hA⟩ := hA.cons
        obtain ⟨A2, hA⟩ := hA.app
        obtain ⟨t4, -⟩ := hA.cons
        refine sum_0 (pval_mm t1 ?_ t2 (IHa hk7 _ _ (by omega) A1 (by rw [t3]; exact st12)) t3 (IHb hk7 _ _ (by omega) A2 (by rw [t4]; exact st8)) t4) hs
        have : k = 13 ∨ k = 14 := by omega
        rcases this with rfl | rfl <;> decide
theorem sum_hd {f : Nat} {x : Int32} {dp : Nat} (hdp : 1 < dp) (hf : 1 ≤ f) : ∃ t, tkF f false x dp = [t] ∧ ¬ t = -23 ∧ ¬ t = -9 := by
  obtain ⟨f, rfl⟩ : ∃ g, f = g + 1 := ⟨f - 1, by omega⟩
  have hk := (kdS_ok x dp).2 hdp
  have ek : kdG false x dp = kdS x dp := rfl
  have hnm := nmG_ok false x
  rw [tkF_s, ek]
  generalize kdS x dp = k at *
  unfold nodeTk
  by_cases h : k = 0
  · rw [if_pos h]
    refine ⟨_, rfl, fun e => ?_, fun e => ?_⟩
    · exact nI_nn hnm (by rw [e]; decide)
    · exact nI_nn hnm (by rw [e]; decide)
  · rw [if_neg h, if_pos hk]
    have : k = 1 ∨ k = 2 ∨ k = 3 ∨ k = 4 ∨ k = 5 ∨ k = 6 := by omega
    refine ⟨_, rfl, ?_⟩
    rcases this with rfl | rfl | rfl | rfl | rfl | rfl <;> decide
theorem prs_tst {T : Nat → Int32} : ∀ (f L : Nat) (x : Int32) (dp p : Nat), 1 ≤ dp → (if dp ≤ 1 then 3 else 2) ≤ f → 2 * f ≤ L → At T p (tkF f true x dp) → isStop (T (p + (tkF f true x dp).length)) = true → (lvP T L).2.2 p = (some (cdF f true x dp), p + (tkF f true x dp).length)
  | 0, _, _, dp, _, _, h, _, _, _ => by
    split at h <;> omega
  | f + 1, L, x, dp, p, hdp, hf, hL, hA, hs => by
    obtain ⟨L, rfl⟩ : ∃ l, L = l + 1 + 1 := ⟨L - 2, by omega⟩
    show pchn T (pchn T (psg T (lvP T (L + 1 + 1)).1.2 (lvP T (L + 1)).2.1 (lvP T (L + 1)).2.2) (jn 1)) (jn 0) p = _
    have IH := fun L' y p' => prs_tst (T := T) f L' y (dp + 1) p'
    have hk := (kdT_ok x dp).1
    have hk1 := (kdT_ok x dp).2
    have ek : kdG true x dp = kdT x dp := rfl
    rw [tkF_s] at hA hs ⊢
    rw [cdF_s]
    rw [ek] at hA hs ⊢
    by_cases h25 : kdT x dp < 25
    · have ea : chA true x dp = (false, x * 3 + 7) := by
        unfold chA; rw [if_pos rfl, if_pos h25]
      have eb : chB true x dp = (false, x * 5 + 1) := by
        unfold chB; rw [if_pos rfl, if_pos h25]
      rw [ea, eb] at hA hs ⊢
      have hf1 : 1 ≤ f := by split at hf <;> omega
      obtain ⟨ta, ha, na1, na2⟩ := sum_hd (f := f) (x := x * 3 + 7) (dp := dp + 1) (by omega) hf1
      obtain ⟨tb, hb, -, -⟩ := sum_hd (f := f) (x := x * 5 + 1) (dp := dp + 1) (by omega) hf1
      have c1 : (if dp + 1 ≤ 1 then 2 else 1) ≤ f := by rw [if_neg (by omega)]; exact hf1
      have Sa := prs_sum (T := T) f (L + 1 + 1) (x * 3 + 7) (dp + 1) p (by omega) c1 (by omega)
      have Sb := prs_sum (T := T) f (L + 1 + 1) (x * 5 + 1) (dp + 1) (p + 1 + 1) (by omega) c1 (by omega)
      generalize kdT x dp = k at *
      generalize nmG true x = nm at *
      have e1 : ∀ a b, nodeTk k nm a b = a ++ (cod k :: b) := fun a b => by
        unfold nodeTk
        rw [if_neg (by omega), if_neg (by omega), if_neg (by omega), if_neg (by omega), if_neg (by omega), if_neg (by omega), if_pos h25]
      have e2 : ∀ a b, nodeCd k nm a b = a ++ (b ++ [cod k]) := fun a b => by
        unfold nodeCd
        rw [if_neg (by omega), if_neg (by omega), if_neg (by omega), if_neg (by omega)]
      rw [ha, hb, e1] at hA hs ⊢
      rw [e2]
      rw [ha] at Sa
      rw [hb] at Sb
      obtain ⟨t1, hA⟩ := hA.cons
      obtain ⟨t2, hA⟩ := hA.cons
      obtain ⟨t3, -⟩ := hA.cons
      have hcm : isStop (cod k) = true ∧ isCmp (cod k) = true := by
        have : k = 20 ∨ k = 21 ∨ k = 22 ∨ k = 23 ∨ k = 24 := by omega
        rcases this with rfl | rfl | rfl | rfl | rfl <;> decide
      refine tst_0 (psg_cm (by rw [t1]; exact na1) (by rw [t1]; exact na2) (Sa (fun i t ht => ?_) ?_) t2 hcm.2 (Sb (fun i t ht => ?_) hs)) hs
      · cases i with
        | zero =>
          have : ta = t := by simpa using ht
          rw [← this]
          exact t1
        | succ i => simp at ht
      · show isStop (T (p + 1)) = true
        rw [t2]
        exact hcm.1
      · cases i with
        | zero =>
          have : tb = t := by simpa using ht
          rw [← this]
          exact t3
        | succ i => simp at ht
    · have ea : chA true x dp = (true, x * 3 + 5) := by
        unfold chA; rw [if_pos rfl, if_neg h25]
      have eb : chB true x dp = (true, x * 7 + 3) := by
        unfold chB; rw [if_pos rfl, if_neg h25]
      rw [ea, eb] at hA hs ⊢
      have hdp1 : dp = 1 := by
        by_cases h : 1 < dp
        · exact absurd (hk1 h) h25
        · omega
      have c1 : (if dp + 1 ≤ 1 then 3 else 2) ≤ f := by
        rw [if_neg (by omega)]
        rw [if_pos (by omega)] at hf
        omega
      have IHa : ∀ L' p', 2 * f ≤ L' → At T p' (tkF f true (x * 3 + 5) (dp + 1)) → isStop (T (p' + (tkF f true (x * 3 + 5) (dp + 1)).length)) = true → (lvP T L').2.2 p' = (some (cdF f true (x * 3 + 5) (dp + 1)), p' + (tkF f true (x * 3 + 5) (dp + 1)).length) := fun L' p' => IH L' (x * 3 + 5) p' (by omega) c1
      have IHb : ∀ L' p', 2 * f ≤ L' → At T p' (tkF f true (x * 7 + 3) (dp + 1)) → isStop (T (p' + (tkF f true (x * 7 + 3) (dp + 1)).length)) = true → (lvP T L').2.2 p' = (some (cdF f true (x * 7 + 3) (dp + 1)), p' + (tkF f true (x * 7 + 3) (dp + 1)).length) := fun L' p' => IH L' (x * 7 + 3) p' (by omega) c1
      clear IH
      generalize kdT x dp = k at *
      generalize nmG true x = nm at *
      show pchn T (pchn T (psg T (lvP T (L + 1 + 1)).1.2 (lvP T (L + 1)).2.1 (lvP T (L + 1)).2.2) (jn 1)) (jn 0) p = (some (nodeCd k nm (cdF f true (x * 3 + 5) (dp + 1)) (cdF f true (x * 7 + 3) (dp + 1))), p + (nodeTk k nm (tkF f true (x * 3 + 5) (dp + 1)) (tkF f true (x * 7 + 3) (dp + 1))).length)
      replace hA : At T p (nodeTk k nm (tkF f true (x * 3 + 5) (dp + 1)) (tkF f true (x * 7 + 3) (dp + 1))) := hA
      replace hs : isStop (T (p + (nodeTk k nm (tkF f true (x * 3 + 5) (dp + 1)) (tkF f true (x * 7 + 3) (dp + 1))).length)) = true := hs
      generalize tkF f true (x * 3 + 5) (dp + 1) = a at *
      generalize tkF f true (x * 7 + 3) (dp + 1) = b at *
      generalize cdF f true (x * 3 + 5) (dp + 1) = ca at *
      generalize cdF f true (x * 7 + 3) (dp + 1) = cb at *
      have st10 : isStop (-10) = true := by decide
      by_cases h26 : k = 26
      · subst h26
        have e1 : nodeTk 26 nm a b = -23 :: -9 :: (a ++ [-10]) := rfl
        have e2 : nodeCd 26 nm ca cb = ca ++ [-23] := rfl
        have hl : p + (-23 :: -9 :: (a ++ [-10]) : List Int32).length = p + 1 + 1 + a.length + 1 := by
          simp only [List.length_append, List.length_cons, List.length_nil]; omega
        rw [e1] at hA hs ⊢
        rw [hl] at hs ⊢
        rw [e2]
        obtain ⟨t1, hA⟩ := hA.cons
        obtain ⟨t2, hA⟩ := hA.cons
        obtain ⟨A1, hA⟩ := hA.app
        obtain ⟨t3, -⟩ := hA.cons
        refine tst_0 (psg_nt t1 ?_) hs
        show psg T (lvP T (L + 1)).1.2 (lvP T L).2.1 (lvP T L).2.2 (p + 1) = _
        exact psg_br t2 (IHa _ _ (by omega) A1 (by rw [t3]; exact st10)) t3
      · have hk' : k = 27 ∨ k = 28 := by omega
        have e1 : nodeTk k nm a b = -9 :: (a ++ (-10 :: cod k :: -9 :: (b ++ [-10]))) := by
          rcases hk' with rfl | rfl <;> rfl
        have e2 : nodeCd k nm ca cb = ca ++ (cb ++ [cod k]) := by
          rcases hk' with rfl | rfl <;> rfl
        have hl : p + (-9 :: (a ++ (-10 :: cod k :: -9 :: (b ++ [-10]))) : List Int32).length = p + 1 + a.length + 1 + 1 + 1 + b.length + 1 := by
          simp only [List.length_append, List.length_cons, List.length_nil]; omega
        rw [e1] at hA hs ⊢
        rw [hl] at hs ⊢
        rw [e2]
        obtain ⟨t1, hA⟩ := hA.cons
        obtain ⟨A1, hA⟩ := hA.app
        obtain ⟨t2, hA⟩ := hA.cons
        obtain ⟨t3, hA⟩ := hA.cons
        obtain ⟨t4, hA⟩ := hA.cons
        obtain ⟨A2, hA⟩ := hA.app
        obtain ⟨t5, -⟩ := hA.cons
        refine tst_1 (psg_br t1 (IHa _ _ (by omega) A1 (by rw [t2]; exact st10)) t2) t3 ?_ (psg_br t4 (IHb _ _ (by omega) A2 (by rw [t5]; exact st10)) t5) hs
        rcases hk' with rfl | rfl <;> decide
