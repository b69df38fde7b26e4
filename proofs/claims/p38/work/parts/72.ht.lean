/-! terraces by their numbers; sums and extremes over them -/
def fb (N b : Nat) : Nat := match gq N b with
  | some q => q.1
  | none => 0
def lb (N b : Nat) : Nat := match gq N b with
  | some q => q.2
  | none => 0
def nL : Nat → Int64
  | 0 => 0
  | n + 1 => nL n + 1
def ckFL (N b : Nat) : Bool :=
  (!gEx N b || (decide (gF N b = nI (fb N b)) && decide (gL N b = nI (lb N b)) && decide (fb N b ≤ lb N b) && decide (lb N b < N) && decide (cn N b = nL (lb N b + 1 - fb N b)))) &&
  (decide (fb N b < lb N b) == gIn N b) &&
  (!gIn N b || (decide (fb N (2 * b) = fb N b) && decide (lb N (2 * b) + 1 = fb N (2 * b + 1)) && decide (lb N (2 * b + 1) = lb N b) && decide (lb N (2 * b) = (fb N b + lb N b) / 2))) && (!decide (b = 1) || (decide (fb N b = 0) && decide (lb N b = N - 1)))
theorem ckFL_all : (List.range 33).all (fun N => decide (N < 2) || (List.range 64).all (fun b => ckFL N b)) = true := by decide +kernel
theorem ckFL_at {N b : Nat} (h2 : 2 ≤ N) (h32 : N ≤ 32) (hb : b < 64) : ckFL N b = true := by
  have h := List.all_eq_true.mp ckFL_all N (List.mem_range.mpr (by omega))
  rcases Bool.or_eq_true_iff.mp h with h | h
  · exact absurd (of_decide_eq_true h) (by omega)
  · exact List.all_eq_true.mp h b (List.mem_range.mpr hb)
theorem fl_ex {N b : Nat} (h2 : 2 ≤ N) (h32 : N ≤ 32) (hb : b < 64) (he : gEx N b = true) : gF N b = nI (fb N b) ∧ gL N b = nI (lb N b) ∧ fb N b ≤ lb N b ∧ lb N b < N ∧ cn N b = nL (lb N b + 1 - fb N b) := by
  have h := ckFL_at h2 h32 hb
  unfold ckFL at h
  rw [he] at h
  simp only [Bool.and_eq_true, beq_iff_eq, Bool.not_true, Bool.false_or, decide_eq_true_eq] at h
  obtain ⟨⟨⟨⟨⟨⟨⟨a1, a2⟩, a3⟩, a4⟩, a5⟩, -⟩, -⟩, -⟩ := h
  exact ⟨a1, a2, a3, a4, a5⟩
theorem fl_in {N b : Nat} (h2 : 2 ≤ N) (h32 : N ≤ 32) (hb : b < 64) (hi : gIn N b = true) : fb N b < lb N b ∧ fb N (2 * b) = fb N b ∧ lb N (2 * b) + 1 = fb N (2 * b + 1) ∧ lb N (2 * b + 1) = lb N b ∧ lb N (2 * b) = (fb N b + lb N b) / 2 := by
  have h := ckFL_at h2 h32 hb
  unfold ckFL at h
  rw [hi] at h
  simp only [Bool.and_eq_true, beq_iff_eq, Bool.not_true, Bool.false_or, decide_eq_true_eq] at h
  obtain ⟨⟨⟨-, a5⟩, ⟨⟨a1, a2⟩, a3⟩, a4⟩, -⟩ := h
  exact ⟨a5, a1, a2, a3, a4⟩
theorem fl_lf {N b : Nat} (h2 : 2 ≤ N) (h32 : N ≤ 32) (hb : b < 64) (he : gEx N b = true) (hi : gIn N b = false) : lb N b = fb N b := by
  have h := ckFL_at h2 h32 hb
  have h3 := (fl_ex h2 h32 hb he).2.2.1
  unfold ckFL at h
  rw [hi] at h
  simp only [Bool.and_eq_true, beq_iff_eq, decide_eq_false_iff_not] at h
  have := h.1.1.2
  omega
theorem fl_1 {N : Nat} (h2 : 2 ≤ N) (h32 : N ≤ 32) : fb N 1 = 0 ∧ lb N 1 = N - 1 := by
  have h := ckFL_at (b := 1) h2 h32 (by omega)
  unfold ckFL at h
  simp only [Bool.and_eq_true, Bool.or_eq_true, Bool.not_eq_true', decide_eq_false_iff_not, not_true_eq_false, false_or, decide_eq_true_eq] at h
  exact h.2
theorem nI_leq {a b : Nat} (ha : a < 1000) (hb : b < 1000) : nI a ≤ nI b ↔ a ≤ b := by
  rw [Int32.le_iff_toInt_le, nI_ti ha, nI_ti hb]
  omega
theorem nI_le0 {t : Int32} {a b : Nat} (ha : a < 1000) (hb : b < 1000) (h1 : nI a ≤ t) (h2 : t ≤ nI b) : ∃ k, a ≤ k ∧ k ≤ b ∧ t = nI k := by
  rw [Int32.le_iff_toInt_le, nI_ti ha] at h1
  rw [Int32.le_iff_toInt_le, nI_ti hb] at h2
  refine ⟨t.toInt.toNat, by omega, by omega, ?_⟩
  apply Int32.toInt_inj.mp
  rw [nI_ti (by omega)]
  omega
def sR (g : Nat → Int64) (f : Nat) : Nat → Int64
  | 0 => 0
  | n + 1 => sR g f n + g (f + n)
theorem sR_cg {g g' : Nat → Int64} {f : Nat} : ∀ (n : Nat), (∀ t, f ≤ t → t < f + n → g t = g' t) → sR g f n = sR g' f n
  | 0, _ => rfl
  | n + 1, h => by rw [sR, sR, sR_cg n (fun t a b => h t a (by omega)), h (f + n) (by omega) (by omega)]
theorem sR_sp {g : Nat → Int64} {f m : Nat} : ∀ (n : Nat), sR g f (m + n) = sR g f m + sR g (f + m) n
  | 0 => by rw [sR, Nat.add_zero, Int64.add_zero]
  | n + 1 => by rw [← Nat.add_assoc, sR, sR_sp n, sR, Int64.add_assoc, Nat.add_assoc]
theorem sR_ad {g : Nat → Int64} {f : Nat} {c : Int64} : ∀ (n : Nat), sR (fun t => g t + c) f n = sR g f n + c * nL n
  | 0 => by rw [sR, sR, nL, Int64.mul_zero, Int64.add_zero]
  | n + 1 => by
    rw [sR, sR, nL, sR_ad n, Int64.mul_add, Int64.mul_one]
    generalize sR g f n = p
    generalize c * nL n = q
    generalize g (f + n) = r
    rw [Int64.add_assoc, Int64.add_assoc, ← Int64.add_assoc q r c, ← Int64.add_assoc r q c, Int64.add_comm q r]
theorem sR_co {f : Nat} {c : Int64} : ∀ (n : Nat), sR (fun _ => c) f n = c * nL n
  | 0 => by rw [sR, nL, Int64.mul_zero]
  | n + 1 => by rw [sR, sR_co n, nL, Int64.mul_add, Int64.mul_one]
/-- the greatest of g from f on, below e -/
def Mx (g : Nat → Int32) (f e : Nat) (m : Int32) : Prop := (∀ t, f ≤ t → t < e → g t ≤ m) ∧ ∃ t, f ≤ t ∧ t < e ∧ g t = m
def Mn (g : Nat → Int32) (f e : Nat) (m : Int32) : Prop := (∀ t, f ≤ t → t < e → m ≤ g t) ∧ ∃ t, f ≤ t ∧ t < e ∧ g t = m
theorem imax_ge {a b : Int32} : a ≤ imax a b ∧ b ≤ imax a b ∧ (imax a b = a ∨ imax a b = b) := by
  unfold imax
  by_cases h : a < b
  · rw [if_pos h]
    rw [Int32.lt_iff_toInt_lt] at h
    exact ⟨by rw [Int32.le_iff_toInt_le]; omega, by rw [Int32.le_iff_toInt_le]; omega, Or.inr rfl⟩
  · rw [if_neg h]
    rw [Int32.lt_iff_toInt_lt] at h
    exact ⟨by rw [Int32.le_iff_toInt_le]; omega, by rw [Int32.le_iff_toInt_le]; omega, Or.inl rfl⟩
theorem Mx.cg {g g' : Nat → Int32} {f e : Nat} {m : Int32} (h : Mx g f e m) (hc : ∀ t, f ≤ t → t < e → g' t = g t) : Mx g' f e m := by
  obtain ⟨a, t, b, c, d⟩ := h
  exact ⟨fun t x y => by rw [hc t x y]; exact a t x y, t, b, c, by rw [hc t b c]; exact d⟩
theorem Mn.cg {g g' : Nat → Int32} {f e : Nat} {m : Int32} (h : Mn g f e m) (hc : ∀ t, f ≤ t → t < e → g' t = g t) : Mn g' f e m := by
  obtain ⟨a, t, b, c, d⟩ := h
  exact ⟨fun t x y => by rw [hc t x y]; exact a t x y, t, b, c, by rw [hc t b c]; exact d⟩
theorem Mx.app {g : Nat → Int32} {f k e : Nat} {m m' : Int32} (h : Mx g f k m) (h' : Mx g k e m') (h1 : f ≤ k) (h2 : k ≤ e) : Mx g f e (imax m m') := by
  obtain ⟨a, t, b, c, d⟩ := h
  obtain ⟨a', t', b', c', d'⟩ := h'
  obtain ⟨i1, i2, i3⟩ := imax_ge (a := m) (b := m')
  refine ⟨fun z x y => ?_, ?_⟩
  · by_cases hz : z < k
    · exact i32_le_tr (a z x hz) i1
    · exact i32_le_tr (a' z (by omega) y) i2
  · rcases i3 with i3 | i3
    · exact ⟨t, b, by omega, by rw [i3]; exact d⟩
    · exact ⟨t', by omega, c', by rw [i3]; exact d'⟩
theorem Mn.app {g : Nat → Int32} {f k e : Nat} {m m' : Int32} (h : Mn g f k m) (h' : Mn g k e m') (h1 : f ≤ k) (h2 : k ≤ e) : Mn g f e (imin m m') := by
  obtain ⟨a, t, b, c, d⟩ := h
  obtain ⟨a', t', b', c', d'⟩ := h'
  obtain ⟨i1, i2, i3⟩ := imin_le (a := m) (b := m')
  refine ⟨fun z x y => ?_, ?_⟩
  · by_cases hz : z < k
    · exact i32_le_tr i1 (a z x hz)
    · exact i32_le_tr i2 (a' z (by omega) y)
  · rcases i3 with i3 | i3
    · exact ⟨t, b, by omega, by rw [i3]; exact d⟩
    · exact ⟨t', by omega, c', by rw [i3]; exact d'⟩
theorem i32_asy {a b : Int32} (h : a ≤ b) (h' : b ≤ a) : a = b := by
  rw [Int32.le_iff_toInt_le] at h h'
  exact Int32.toInt_inj.mp (by omega)
theorem Mx.uq {g : Nat → Int32} {f e : Nat} {m m' : Int32} (h : Mx g f e m) (h' : Mx g f e m') : m = m' := by
  obtain ⟨a, t, b, c, d⟩ := h
  obtain ⟨a', t', b', c', d'⟩ := h'
  exact i32_asy (by rw [← d]; exact a' t b c) (by rw [← d']; exact a t' b' c')
theorem Mn.uq {g : Nat → Int32} {f e : Nat} {m m' : Int32} (h : Mn g f e m) (h' : Mn g f e m') : m = m' := by
  obtain ⟨a, t, b, c, d⟩ := h
  obtain ⟨a', t', b', c', d'⟩ := h'
  exact i32_asy (by rw [← d']; exact a t' b' c') (by rw [← d]; exact a' t b c)
theorem Mx.one {g : Nat → Int32} {f : Nat} : Mx g f (f + 1) (g f) := ⟨fun t x y => by rw [show t = f by omega]; exact i32_le_rf, f, by omega, by omega, rfl⟩
theorem Mn.one {g : Nat → Int32} {f : Nat} : Mn g f (f + 1) (g f) := ⟨fun t x y => by rw [show t = f by omega]; exact i32_le_rf, f, by omega, by omega, rfl⟩
/-- heights as a branch tells them -/
theorem hgN_in {N : Nat} {V : Val} {k b t : Nat} (h2 : 2 ≤ N) (h32 : N ≤ 32) (hb : b < 64) (hi : gIn N b = true) (ht : t < 1000) : hg N V (nI t) (k + 1) b 0 = (if (V b).2.2.2.2.1 = 0 then hg N V (nI t) k (if t ≤ lb N (2 * b) then 2 * b else 2 * b + 1) 0 else (V b).2.2.2.2.2) + (V b).2.2.2.1 := by
  have hc := (geo_in h2 h32 hb hi)
  obtain ⟨-, e, -, h3, -⟩ := fl_ex h2 h32 (b := 2 * b) (by omega) (un_ex h2 h32 hb hi).1
  rw [hg, if_pos hi, e]
  by_cases h0 : (V b).2.2.2.2.1 = 0
  · rw [if_pos h0, if_pos h0, hg_add, Int32.zero_add]
    by_cases hl : t ≤ lb N (2 * b)
    · rw [if_pos hl, if_pos ((nI_leq ht (by omega)).mpr hl)]
    · rw [if_neg hl, if_neg (fun z => hl ((nI_leq ht (by omega)).mp z))]
  · rw [if_neg h0, if_neg h0, Int32.add_zero]
theorem hgN_lf {N : Nat} {V : Val} {k b : Nat} {t : Int32} (hi : gIn N b = false) : hg N V t k b 0 = (V b).2.1 := by
  cases k with
  | zero => rw [hg, Int32.add_zero]
  | succ k => rw [hg, if_neg (by rw [hi]; exact Bool.false_ne_true), Int32.add_zero]
theorem hg_bC {N : Nat} {V : Val} {t : Int32} : ∀ {k K b : Nat}, CB N V k K b → na (hg N V t k b 0) ≤ K + 999
  | 0, _, _, h => h.elim
  | k + 1, K, b, ⟨h1, h2, h3, h4, h5⟩ => by
    rw [hg]
    by_cases hi : gIn N b = true
    · obtain ⟨g1, g2, g3⟩ := h4 hi
      rw [if_pos hi]
      split
      · rw [hg_add, Int32.zero_add]
        split
        · have := hg_bC (t := t) g2
          have := na_add (hg N V t k (2 * b) 0) (V b).2.2.2.1
          omega
        · have := hg_bC (t := t) g3
          have := na_add (hg N V t k (2 * b + 1) 0) (V b).2.2.2.1
          omega
      · rw [Int32.add_zero]
        have := na_add (V b).2.2.2.2.2 (V b).2.2.2.1
        omega
    · rw [if_neg hi, Int32.add_zero]
      exact h2
/-- the water that a branch tells -/
theorem hg_sum {N : Nat} {V : Val} (h2 : 2 ≤ N) (h32 : N ≤ 32) : ∀ (k K b : Nat), b < 64 → gEx N b = true → K < 900000000 → CB N V k K b → (V b).1 = sR (fun t => (hg N V (nI t) k b 0).toInt64) (fb N b) (lb N b + 1 - fb N b)
  | 0, _, _, _, _, _, h => h.elim
  | k + 1, K, b, hb, he, hK, hG => by
    obtain ⟨h1, h2', h3, h4, h5⟩ := hG
    obtain ⟨e1, e2, e3, e4, e5⟩ := fl_ex h2 h32 hb he
    cases hi : gIn N b with
    | true =>
      obtain ⟨⟨-, g1⟩, g2, g3⟩ := h4 hi
      obtain ⟨f1, f2, f3, f4, f5⟩ := fl_in h2 h32 hb hi
      have hc := (geo_in h2 h32 hb hi).1
      obtain ⟨x1, x2⟩ := un_ex h2 h32 hb hi
      obtain ⟨-, -, a3, a4, a5⟩ := fl_ex h2 h32 (b := 2 * b) (by omega) x1
      obtain ⟨-, -, c3, c4, c5⟩ := fl_ex h2 h32 (b := 2 * b + 1) (by omega) x2
      have w1 := hg_sum h2 h32 k _ (2 * b) (by omega) x1 (by omega) g2
      have w2 := hg_sum h2 h32 k _ (2 * b + 1) (by omega) x2 (by omega) g3
      unfold LCw at g1
      by_cases h0 : (V b).2.2.2.2.1 = 0
      · rw [if_pos h0, w1, w2] at g1
        have hs : lb N b + 1 - fb N b = (lb N (2 * b) + 1 - fb N (2 * b)) + (lb N (2 * b + 1) + 1 - fb N (2 * b + 1)) := by omega
        have q : sR (fun t => (hg N V (nI t) (k + 1) b 0).toInt64) (fb N b) (lb N b + 1 - fb N b) = sR (fun t => (hg N V (nI t) k (if t ≤ lb N (2 * b) then 2 * b else 2 * b + 1) 0).toInt64 + (V b).2.2.2.1.toInt64) (fb N b) (lb N b + 1 - fb N b) := by
          refine sR_cg _ (fun t ht ht' => ?_)
          show (hg N V (nI t) (k + 1) b 0).toInt64 = _
          rw [hgN_in h2 h32 hb hi (by omega), if_pos h0]
          refine na_l ?_
          split
          · have := hg_bC (t := nI t) g2
            omega
          · have := hg_bC (t := nI t) g3
            omega
        rw [q, sR_ad, g1, e5]
        refine congrArg (· + (V b).2.2.2.1.toInt64 * nL (lb N b + 1 - fb N b)) ?_
        rw [hs, sR_sp]
        have q1 : sR (fun t => (hg N V (nI t) k (if t ≤ lb N (2 * b) then 2 * b else 2 * b + 1) 0).toInt64) (fb N b) (lb N (2 * b) + 1 - fb N (2 * b)) = sR (fun t => (hg N V (nI t) k (2 * b) 0).toInt64) (fb N (2 * b)) (lb N (2 * b) + 1 - fb N (2 * b)) := by
          rw [f2]
          refine sR_cg _ (fun t ht ht' => ?_)
          show (hg N V (nI t) k (if t ≤ lb N (2 * b) then 2 * b else 2 * b + 1) 0).toInt64 = _
          rw [if_pos (by omega)]
        have q2 : sR (fun t => (hg N V (nI t) k (if t ≤ lb N (2 * b) then 2 * b else 2 * b + 1) 0).toInt64) (fb N b + (lb N (2 * b) + 1 - fb N (2 * b))) (lb N (2 * b + 1) + 1 - fb N (2 * b + 1)) = sR (fun t => (hg N V (nI t) k (2 * b + 1) 0).toInt64) (fb N (2 * b + 1)) (lb N (2 * b + 1) + 1 - fb N (2 * b + 1)) := by
          rw [show fb N b + (lb N (2 * b) + 1 - fb N (2 * b)) = fb N (2 * b + 1) by omega]
          refine sR_cg _ (fun t ht ht' => ?_)
          show (hg N V (nI t) k (if t ≤ lb N (2 * b) then 2 * b else 2 * b + 1) 0).toInt64 = _
          rw [if_neg (by omega)]
        rw [q1, q2]
      · rw [if_neg h0] at g1
        have q : sR (fun t => (hg N V (nI t) (k + 1) b 0).toInt64) (fb N b) (lb N b + 1 - fb N b) = sR (fun _ => (V b).2.2.2.2.2.toInt64 + (V b).2.2.2.1.toInt64) (fb N b) (lb N b + 1 - fb N b) := by
          refine sR_cg _ (fun t ht ht' => ?_)
          show (hg N V (nI t) (k + 1) b 0).toInt64 = _
          rw [hgN_in h2 h32 hb hi (by omega), if_neg h0]
          exact na_l (by omega)
        rw [q, sR_co, g1, e5, Int64.add_mul]
    | false =>
      have hl := fl_lf h2 h32 hb he hi
      rw [hl, show fb N b + 1 - fb N b = 1 by omega, sR, sR, Int64.zero_add, hgN_lf hi]
      exact h5 hi
/-- the greatest height that a branch tells -/
theorem hg_max {N : Nat} {V : Val} (h2 : 2 ≤ N) (h32 : N ≤ 32) : ∀ (k K b : Nat), b < 64 → gEx N b = true → K < 900000000 → CB N V k K b → Mx (fun t => hg N V (nI t) k b 0) (fb N b) (lb N b + 1) (V b).2.1
  | 0, _, _, _, _, _, h => h.elim
  | k + 1, K, b, hb, he, hK, hG => by
    obtain ⟨h1, h2', h3, h4, h5⟩ := hG
    obtain ⟨e1, e2, e3, e4, e5⟩ := fl_ex h2 h32 hb he
    cases hi : gIn N b with
    | true =>
      obtain ⟨⟨g1, -⟩, g2, g3⟩ := h4 hi
      obtain ⟨f1, f2, f3, f4, f5⟩ := fl_in h2 h32 hb hi
      have hc := (geo_in h2 h32 hb hi).1
      obtain ⟨x1, x2⟩ := un_ex h2 h32 hb hi
      obtain ⟨-, -, a3, a4, a5⟩ := fl_ex h2 h32 (b := 2 * b) (by omega) x1
      obtain ⟨-, -, c3, c4, c5⟩ := fl_ex h2 h32 (b := 2 * b + 1) (by omega) x2
      have w1 := hg_max h2 h32 k _ (2 * b) (by omega) x1 (by omega) g2
      have w2 := hg_max h2 h32 k _ (2 * b + 1) (by omega) x2 (by omega) g3
      unfold LCh at g1
      by_cases h0 : (V b).2.2.2.2.1 = 0
      · rw [if_pos h0] at g1
        have w1' := Mx.cg (g' := fun t => hg N V (nI t) k (if t ≤ lb N (2 * b) then 2 * b else 2 * b + 1) 0) w1 (fun t ht ht' => by
          show hg N V (nI t) k (if t ≤ lb N (2 * b) then 2 * b else 2 * b + 1) 0 = hg N V (nI t) k (2 * b) 0
          rw [if_pos (by omega)])
        have w2' := Mx.cg (g' := fun t => hg N V (nI t) k (if t ≤ lb N (2 * b) then 2 * b else 2 * b + 1) 0) w2 (fun t ht ht' => by
          show hg N V (nI t) k (if t ≤ lb N (2 * b) then 2 * b else 2 * b + 1) 0 = hg N V (nI t) k (2 * b + 1) 0
          rw [if_neg (by omega)])
        rw [← f3] at w2'
        have w := Mx.app w1' w2' (by omega) (by omega)
        rw [f2, f4] at w
        obtain ⟨m1, t, m2, m3, m4⟩ := w
        have eh : ∀ t, fb N b ≤ t → t < lb N b + 1 → hg N V (nI t) (k + 1) b 0 = hg N V (nI t) k (if t ≤ lb N (2 * b) then 2 * b else 2 * b + 1) 0 + (V b).2.2.2.1 := fun t _ _ => by
          rw [hgN_in h2 h32 hb hi (by omega), if_pos h0]
        have b1 := CB_hi g2
        have b2 := CB_hi g3
        have b3 := na_imax b1 b2
        refine ⟨fun z x y => ?_, t, m2, m3, ?_⟩
        · show hg N V (nI z) (k + 1) b 0 ≤ _
          rw [eh z x y, g1]
          refine i32_add_le (m1 z x y) ?_ (by omega)
          split
          · have := hg_bC (t := nI z) g2
            omega
          · have := hg_bC (t := nI z) g3
            omega
        · show hg N V (nI t) (k + 1) b 0 = _
          rw [eh t m2 m3, g1]
          exact congrArg (· + (V b).2.2.2.1) m4
      · rw [if_neg h0] at g1
        have eh : ∀ t, fb N b ≤ t → t < lb N b + 1 → hg N V (nI t) (k + 1) b 0 = (V b).2.1 := fun t _ _ => by
          rw [hgN_in h2 h32 hb hi (by omega), if_neg h0, g1]
        exact ⟨fun z x y => by show hg N V (nI z) (k + 1) b 0 ≤ _; rw [eh z x y]; exact i32_le_rf, fb N b, by omega, by omega, eh _ (by omega) (by omega)⟩
    | false =>
      have eh : ∀ t, hg N V (nI t) (k + 1) b 0 = (V b).2.1 := fun t => hgN_lf hi
      exact ⟨fun z x y => by show hg N V (nI z) (k + 1) b 0 ≤ _; rw [eh z]; exact i32_le_rf, fb N b, by omega, by omega, eh _⟩
theorem hg_mnN {N : Nat} {V : Val} {k K b : Nat} (h2 : 2 ≤ N) (h32 : N ≤ 32) (hb1 : 1 ≤ b) (hb : b < 64) (he : gEx N b = true) (hK : K < 900000000) (h : GB N V k K b) : Mn (fun t => hg N V (nI t) k b 0) (fb N b) (lb N b + 1) (V b).2.2.1 := by
  obtain ⟨e1, e2, e3, e4, e5⟩ := fl_ex h2 h32 hb he
  obtain ⟨m1, t, p1, p2, p3⟩ := hg_min h2 h32 k K b hb1 hb he hK h
  rw [e1] at p1
  rw [e2] at p2
  obtain ⟨n, q1, q2, q3⟩ := nI_le0 (by omega) (by omega) p1 p2
  refine ⟨fun z x y => m1 (nI z) ?_ ?_, n, q1, by omega, ?_⟩
  · rw [e1]
    exact (nI_leq (by omega) (by omega)).mpr x
  · rw [e2]
    exact (nI_leq (by omega) (by omega)).mpr (by omega)
  · show hg N V (nI n) k b 0 = _
    rw [← q3]
    exact p3
