/-! the best shower: what the branches tell is what the terraces are; bounds that keep the numbers from wrapping around -/
def na (x : Int32) : Nat := x.toInt.natAbs
theorem na_add (x y : Int32) : na (x + y) ≤ na x + na y := by
  unfold na
  have h1 := Int32.toInt_lt x
  have h2 := Int32.le_toInt x
  have h3 := Int32.toInt_lt y
  have h4 := Int32.le_toInt y
  rw [Int32.toInt_add, Int.bmod_def]
  simp only [Nat.reducePow]
  split <;> omega
theorem na_ta {x y : Int32} (h : na x + na y < 2147483648) : (x + y).toInt = x.toInt + y.toInt := by
  unfold na at h
  rw [Int32.toInt_add, Int.bmod_def]
  simp only [Nat.reducePow]
  split <;> omega
theorem imin_add {a b r : Int32} (ha : na a + na r < 2147483648) (hb : na b + na r < 2147483648) : imin (a + r) (b + r) = imin a b + r := by
  unfold imin
  have e : b + r < a + r ↔ b < a := by
    rw [Int32.lt_iff_toInt_lt, Int32.lt_iff_toInt_lt, na_ta ha, na_ta hb]
    omega
  by_cases h : b < a
  · rw [if_pos h, if_pos (e.mpr h)]
  · rw [if_neg h, if_neg (fun z => h (e.mp z))]
theorem imin_self {a : Int32} : imin a a = a := by
  unfold imin
  split <;> rfl
theorem na_imin {a b : Int32} {n : Nat} (ha : na a ≤ n) (hb : na b ≤ n) : na (imin a b) ≤ n := by
  unfold imin
  split <;> assumption
theorem na_imax {a b : Int32} {n : Nat} (ha : na a ≤ n) (hb : na b ≤ n) : na (imax a b) ≤ n := by
  unfold imax
  split <;> assumption
theorem na_held {x : Int32} : na (imax (-999) (imin 999 x)) ≤ 999 := by
  have e1 : (999 : Int32).toInt = 999 := by decide
  have e2 : (-999 : Int32).toInt = -999 := by decide
  unfold imax imin na
  by_cases h1 : x < 999
  · rw [if_pos h1]
    by_cases h2 : (-999 : Int32) < x
    · rw [if_pos h2]
      rw [Int32.lt_iff_toInt_lt] at h1 h2
      omega
    · rw [if_neg h2]
      omega
  · rw [if_neg h1, if_pos (by decide)]
    omega
theorem na_z : na 0 = 0 := by decide
/-- under a branch -/
def un (b c : Nat) : Prop := ∃ j, c / 2 ^ j = b
theorem un_rf (b : Nat) : un b b := ⟨0, by simp⟩
theorem un_l {b c : Nat} (h : un (2 * b) c) : un b c := by
  obtain ⟨j, h⟩ := h
  exact ⟨j + 1, by rw [Nat.pow_succ, ← Nat.div_div_eq_div_mul, h]; omega⟩
theorem un_r {b c : Nat} (h : un (2 * b + 1) c) : un b c := by
  obtain ⟨j, h⟩ := h
  exact ⟨j + 1, by rw [Nat.pow_succ, ← Nat.div_div_eq_div_mul, h]; omega⟩
theorem un_ge {b c : Nat} (h : un b c) : b ≤ c := by
  obtain ⟨j, h⟩ := h
  rw [← h]
  exact Nat.div_le_self _ _
theorem un_up {b c : Nat} (h : un b c) (hc : c ≠ b) : un (2 * b) c ∨ un (2 * b + 1) c := by
  obtain ⟨j, h⟩ := h
  cases j with
  | zero => exact absurd (by simpa using h) hc
  | succ j =>
    rw [Nat.pow_succ, ← Nat.div_div_eq_div_mul] at h
    have e : c / 2 ^ j = 2 * b ∨ c / 2 ^ j = 2 * b + 1 := by omega
    exact e.elim (fun z => Or.inl ⟨j, z⟩) (fun z => Or.inr ⟨j, z⟩)
theorem un_dv {c i k : Nat} : c / 2 ^ (i + (k + 1)) ≤ c / 2 ^ i / 2 := by
  rw [Nat.pow_add, ← Nat.div_div_eq_div_mul, Nat.pow_succ, Nat.mul_comm (2 ^ k) 2, ← Nat.div_div_eq_div_mul]
  exact Nat.div_le_self _ _
theorem un_dj {b c : Nat} (hb : 1 ≤ b) (h : un (2 * b) c) (h' : un (2 * b + 1) c) : False := by
  obtain ⟨i, hi⟩ := h
  obtain ⟨j, hj⟩ := h'
  rcases Nat.lt_trichotomy i j with e | e | e
  · obtain ⟨k, hk⟩ : ∃ k, j = i + (k + 1) := ⟨j - i - 1, by omega⟩
    have := un_dv (c := c) (i := i) (k := k)
    rw [← hk, hi, hj] at this
    omega
  · rw [e, hj] at hi
    omega
  · obtain ⟨k, hk⟩ : ∃ k, i = j + (k + 1) := ⟨i - j - 1, by omega⟩
    have := un_dv (c := c) (i := j) (k := k)
    rw [← hk, hi, hj] at this
    omega
theorem un_2 {b c : Nat} (h : un b c) : un b (2 * c) ∧ un b (2 * c + 1) := by
  obtain ⟨j, h⟩ := h
  refine ⟨⟨j + 1, ?_⟩, ⟨j + 1, ?_⟩⟩
  · rw [Nat.pow_succ, Nat.mul_comm (2 ^ j) 2, ← Nat.div_div_eq_div_mul, show 2 * c / 2 = c by omega, h]
  · rw [Nat.pow_succ, Nat.mul_comm (2 ^ j) 2, ← Nat.div_div_eq_div_mul, show (2 * c + 1) / 2 = c by omega, h]
theorem un_1 {b : Nat} (hb : 1 ≤ b) (hb' : b < 64) : un 1 b := by
  have : ∀ b, b < 64 → 1 ≤ b → (b / 2 ^ 0 = 1 ∨ b / 2 ^ 1 = 1 ∨ b / 2 ^ 2 = 1 ∨ b / 2 ^ 3 = 1 ∨ b / 2 ^ 4 = 1 ∨ b / 2 ^ 5 = 1) := by decide
  rcases this b hb' hb with h | h | h | h | h | h
  · exact ⟨_, h⟩
  · exact ⟨_, h⟩
  · exact ⟨_, h⟩
  · exact ⟨_, h⟩
  · exact ⟨_, h⟩
  · exact ⟨_, h⟩
/-- what a branch tells is what the two under it tell, and what waits -/
def LC (V : Val) (b : Nat) : Prop := (V b).2.2.1 = if (V b).2.2.2.2.1 = 0 then imin (V (2 * b)).2.2.1 (V (2 * b + 1)).2.2.1 + (V b).2.2.2.1 else (V b).2.2.2.2.2 + (V b).2.2.2.1
def GB (N : Nat) (V : Val) : Nat → Nat → Nat → Prop
  | 0, _, _ => False
  | k + 1, K, b => na (V b).2.2.2.1 ≤ K ∧ na (V b).2.2.1 ≤ K + 999 ∧ na (V b).2.2.2.2.2 ≤ 999 ∧ (gIn N b = true → LC V b ∧ GB N V k (K - na (V b).2.2.2.1) (2 * b) ∧ GB N V k (K - na (V b).2.2.2.1) (2 * b + 1)) ∧ (gIn N b = false → (V b).2.1 = (V b).2.2.1)
theorem GB_mono {N : Nat} {V : Val} : ∀ {k K K' b : Nat}, K ≤ K' → GB N V k K b → GB N V k K' b
  | 0, _, _, _, _, h => h.elim
  | k + 1, K, K', b, hK, ⟨h1, h2, h3, h4, h5⟩ => ⟨by omega, by omega, h3, fun hi => ⟨(h4 hi).1, GB_mono (by omega) (h4 hi).2.1, GB_mono (by omega) (h4 hi).2.2⟩, h5⟩
theorem GB_cg {N : Nat} {V V' : Val} : ∀ {k K b : Nat}, (∀ c, un b c → V' c = V c) → GB N V k K b → GB N V' k K b
  | 0, _, _, _, h => h.elim
  | k + 1, K, b, e, ⟨h1, h2, h3, h4, h5⟩ => by
    have e0 := e b (un_rf b)
    have e1 := e (2 * b) (un_l (un_rf _))
    have e2 := e (2 * b + 1) (un_r (un_rf _))
    refine ⟨by rw [e0]; exact h1, by rw [e0]; exact h2, by rw [e0]; exact h3, fun hi => ?_, fun hi => by rw [e0]; exact h5 hi⟩
    obtain ⟨g1, g2, g3⟩ := h4 hi
    refine ⟨?_, ?_, ?_⟩
    · unfold LC at g1 ⊢
      rw [e0, e1, e2]
      exact g1
    · rw [e0]
      exact GB_cg (fun c hc => e c (un_l hc)) g2
    · rw [e0]
      exact GB_cg (fun c hc => e c (un_r hc)) g3
theorem GB_low {N : Nat} {V : Val} {k K b : Nat} (h : GB N V k K b) : na (V b).2.2.1 ≤ K + 999 := by
  cases k with
  | zero => exact h.elim
  | succ k => exact h.2.1
theorem GB_R {N : Nat} {V V' : Val} {k K b s : Nat} {x : Int32} (h2 : 2 ≤ N) (h32 : N ≤ 32) (hb1 : 1 ≤ b) (hb : b < 64) (hx : na x ≤ s) (e0 : V' b = tkR (gF N b) (gL N b) x (V b)) (ec : ∀ c, un b c → c ≠ b → V' c = V c) (h : GB N V k K b) : GB N V' k (K + s) b := by
  cases k with
  | zero => exact h.elim
  | succ k =>
    obtain ⟨h1, h2', h3, h4, h5⟩ := h
    have hr : (V' b).2.2.2.1 = if gF N b < gL N b then (V b).2.2.2.1 + x else (V b).2.2.2.1 := by rw [e0]; rfl
    have hl : (V' b).2.2.1 = (V b).2.2.1 + x := by rw [e0]; rfl
    have hh : (V' b).2.1 = (V b).2.1 + x := by rw [e0]; rfl
    have hv : (V' b).2.2.2.2.2 = (V b).2.2.2.2.2 := by rw [e0]; rfl
    have hs : (V' b).2.2.2.2.1 = (V b).2.2.2.2.1 := by rw [e0]; rfl
    have hr1 : na (V' b).2.2.2.1 ≤ na (V b).2.2.2.1 + s := by
      rw [hr]
      split
      · have := na_add (V b).2.2.2.1 x
        omega
      · omega
    have hl1 := na_add (V b).2.2.1 x
    refine ⟨by omega, by rw [hl]; omega, by rw [hv]; exact h3, fun hi => ?_, fun hi => by rw [hh, hl, h5 hi]⟩
    obtain ⟨g1, g2, g3⟩ := h4 hi
    have e1 : V' (2 * b) = V (2 * b) := ec _ (un_l (un_rf _)) (by omega)
    have e2 : V' (2 * b + 1) = V (2 * b + 1) := ec _ (un_r (un_rf _)) (by omega)
    refine ⟨?_, GB_mono (by omega) (GB_cg (fun c hc => ec c (un_l hc) (by have := un_ge hc; omega)) g2), GB_mono (by omega) (GB_cg (fun c hc => ec c (un_r hc) (by have := un_ge hc; omega)) g3)⟩
    unfold LC at g1 ⊢
    rw [hl, hs, hr, hv, e1, e2, if_pos ((geo_lt h2 h32 hb).mpr hi), g1]
    split <;> rw [Int32.add_assoc]
theorem GB_L {N : Nat} {V V' : Val} {k K b : Nat} {x : Int32} (h2 : 2 ≤ N) (h32 : N ≤ 32) (hb1 : 1 ≤ b) (hb : b < 64) (hx : na x ≤ 999) (e0 : V' b = tkL (gF N b) (gL N b) x (V b)) (ec : ∀ c, un b c → c ≠ b → V' c = V c) (h : GB N V k K b) : GB N V' k K b := by
  cases k with
  | zero => exact h.elim
  | succ k =>
    obtain ⟨h1, h2', h3, h4, h5⟩ := h
    have hr : (V' b).2.2.2.1 = if gF N b < gL N b then 0 else (V b).2.2.2.1 := by rw [e0]; rfl
    have hl : (V' b).2.2.1 = x := by rw [e0]; rfl
    have hh : (V' b).2.1 = x := by rw [e0]; rfl
    have hv : (V' b).2.2.2.2.2 = if gF N b < gL N b then x else (V b).2.2.2.2.2 := by rw [e0]; rfl
    have hs : (V' b).2.2.2.2.1 = if gF N b < gL N b then 1 else (V b).2.2.2.2.1 := by rw [e0]; rfl
    have hr1 : na (V' b).2.2.2.1 ≤ na (V b).2.2.2.1 := by
      rw [hr]
      split
      · rw [na_z]
        omega
      · omega
    refine ⟨by omega, by rw [hl]; omega, ?_, fun hi => ?_, fun hi => by rw [hh, hl]⟩
    · rw [hv]
      split
      · exact hx
      · exact h3
    obtain ⟨g1, g2, g3⟩ := h4 hi
    refine ⟨?_, GB_mono (by omega) (GB_cg (fun c hc => ec c (un_l hc) (by have := un_ge hc; omega)) g2), GB_mono (by omega) (GB_cg (fun c hc => ec c (un_r hc) (by have := un_ge hc; omega)) g3)⟩
    have hlt := (geo_lt h2 h32 hb).mpr hi
    rw [if_pos hlt] at hr hv hs
    unfold LC
    rw [hl, hs, hr, hv, if_neg (by decide), Int32.add_zero]
theorem GB_ch {N : Nat} {V V' : Val} {k K a s : Nat} {β : BS} (h2 : 2 ≤ N) (h32 : N ≤ 32) (ha1 : 1 ≤ a) (ha : a < 64) (hr : na β.2.2.2.1 ≤ s) (hv : na β.2.2.2.2.2 ≤ 999) (e0 : V' a = chl (gF N a) (gL N a) β (V a)) (ec : ∀ c, un a c → c ≠ a → V' c = V c) (h : GB N V k K a) : GB N V' k (K + s) a := by
  unfold chl at e0
  by_cases h0 : β.2.2.2.2.1 = 0
  · rw [if_pos h0] at e0
    exact GB_R h2 h32 ha1 ha hr e0 ec h
  · rw [if_neg h0] at e0
    refine GB_R (V := fun c => if c = a then tkL (gF N a) (gL N a) β.2.2.2.2.2 (V a) else V c) h2 h32 ha1 ha hr ?_ ?_ (GB_L (V := V) h2 h32 ha1 ha hv ?_ ?_ h)
    · rw [e0, if_pos rfl]
    · intro c hc hn
      rw [if_neg hn]
      exact ec c hc hn
    · exact if_pos rfl
    · intro c hc hn
      exact if_neg hn
theorem opV_out {N b c : Nat} {V : Val} (h0 : c ≠ b) (h1 : c ≠ 2 * b) (h2 : c ≠ 2 * b + 1) : opV N b V c = V c := by
  unfold opV
  rw [if_neg h0, if_neg (by omega)]
theorem GB_op {N : Nat} {V : Val} {k K b : Nat} (h2 : 2 ≤ N) (h32 : N ≤ 32) (hb1 : 1 ≤ b) (hb : b < 64) (hi : gIn N b = true) (hK : K < 1000000000) (h : GB N V k K b) : GB N (opV N b V) k K b := by
  cases k with
  | zero => exact h.elim
  | succ k =>
    obtain ⟨h1, h2', h3, h4, h5⟩ := h
    obtain ⟨g1, g2, g3⟩ := h4 hi
    have hc := (geo_in h2 h32 hb hi).1
    have e0 : opV N b V b = opd (V b) := by unfold opV; rw [if_pos rfl]
    have e1 : opV N b V (2 * b) = chl (gF N (2 * b)) (gL N (2 * b)) (V b) (V (2 * b)) := by
      unfold opV
      rw [if_neg (by omega), if_pos (Or.inl rfl)]
    have e2 : opV N b V (2 * b + 1) = chl (gF N (2 * b + 1)) (gL N (2 * b + 1)) (V b) (V (2 * b + 1)) := by
      unfold opV
      rw [if_neg (by omega), if_pos (Or.inr rfl)]
    have hr : (opV N b V b).2.2.2.1 = 0 := by rw [e0]; rfl
    have hs : (opV N b V b).2.2.2.2.1 = 0 := by rw [e0]; rfl
    have hl : (opV N b V b).2.2.1 = (V b).2.2.1 := by rw [e0]; rfl
    have hv : (opV N b V b).2.2.2.2.2 = 0 := by rw [e0]; rfl
    have l1 : (opV N b V (2 * b)).2.2.1 = (if (V b).2.2.2.2.1 = 0 then (V (2 * b)).2.2.1 else (V b).2.2.2.2.2) + (V b).2.2.2.1 := by
      rw [e1]
      unfold chl
      split <;> rfl
    have l2 : (opV N b V (2 * b + 1)).2.2.1 = (if (V b).2.2.2.2.1 = 0 then (V (2 * b + 1)).2.2.1 else (V b).2.2.2.2.2) + (V b).2.2.2.1 := by
      rw [e2]
      unfold chl
      split <;> rfl
    have b1 := GB_low g2
    have b2 := GB_low g3
    refine ⟨by rw [hr, na_z]; omega, by rw [hl]; exact h2', by rw [hv, na_z]; omega, fun _ => ⟨?_, ?_, ?_⟩, fun hn => by rw [hi] at hn; cases hn⟩
    · unfold LC at g1 ⊢
      rw [hl, hs, if_pos rfl, hr, Int32.add_zero, l1, l2, g1]
      by_cases h0 : (V b).2.2.2.2.1 = 0
      · rw [if_pos h0, if_pos h0, if_pos h0, imin_add (by omega) (by omega)]
      · rw [if_neg h0, if_neg h0, if_neg h0, imin_self]
    · rw [hr, na_z]
      have := GB_ch (k := k) (V' := opV N b V) h2 h32 (by omega) (by omega) (Nat.le_refl _) h3 e1 (fun c hc hn => opV_out (by have := un_ge hc; omega) hn (fun e => un_dj hb1 hc (by rw [e]; exact un_rf _))) g2
      exact GB_mono (by omega) this
    · rw [hr, na_z]
      have := GB_ch (k := k) (V' := opV N b V) h2 h32 (by omega) (by omega) (Nat.le_refl _) h3 e2 (fun c hc hn => opV_out (by have := un_ge hc; omega) (by have := un_ge hc; omega) hn) g3
      exact GB_mono (by omega) this
theorem opS_out {N b c : Nat} {S : GS} (h0 : c ≠ b) (h1 : c ≠ 2 * b) (h2 : c ≠ 2 * b + 1) : (opS N b S).1 c = S.1 c := by
  unfold opS
  split
  · exact opV_out h0 h1 h2
  · rfl
theorem GB_opS {N : Nat} {S : GS} {k K b : Nat} (h2 : 2 ≤ N) (h32 : N ≤ 32) (hb1 : 1 ≤ b) (hb : b < 64) (hi : gIn N b = true) (hK : K < 1000000000) (h : GB N S.1 k K b) : GB N (opS N b S).1 k K b := by
  unfold opS
  split
  · exact GB_op h2 h32 hb1 hb hi hK h
  · exact h
theorem opS_z {N b : Nat} {S : GS} : ((opS N b S).1 b).2.2.2.1 = 0 ∧ ((opS N b S).1 b).2.2.2.2.1 = 0 := by
  unfold opS
  split
  · show (opV N b S.1 b).2.2.2.1 = 0 ∧ (opV N b S.1 b).2.2.2.2.1 = 0
    unfold opV
    rw [if_pos rfl]
    exact ⟨rfl, rfl⟩
  · rename_i h
    unfold wtb at h
    simp only [Bool.or_eq_true, decide_eq_true_eq, not_or, Decidable.not_not] at h
    exact ⟨h.2, h.1⟩
theorem rcS_out {N b c : Nat} {o x : Int32} {S : GS} (h : c ≠ b) : (rcS N o x b S).1 c = S.1 c := if_neg h
theorem GB_rc {N : Nat} {S : GS} {k K b : Nat} {o x : Int32} (h2 : 2 ≤ N) (h32 : N ≤ 32) (hb1 : 1 ≤ b) (hb : b < 64) (hx : na x ≤ 999) (h : GB N S.1 k K b) : GB N (rcS N o x b S).1 k (K + 999) b := by
  have e0 : (rcS N o x b S).1 b = if o = -13 then tkR (gF N b) (gL N b) x (S.1 b) else if o = -14 then tkL (gF N b) (gL N b) x (S.1 b) else S.1 b := if_pos rfl
  by_cases h13 : o = -13
  · rw [if_pos h13] at e0
    exact GB_R h2 h32 hb1 hb hx e0 (fun c _ hn => rcS_out hn) h
  · rw [if_neg h13] at e0
    by_cases h14 : o = -14
    · rw [if_pos h14] at e0
      exact GB_mono (by omega) (GB_L h2 h32 hb1 hb hx e0 (fun c _ hn => rcS_out hn) h)
    · rw [if_neg h14] at e0
      refine GB_mono (by omega) (GB_cg (fun c _ => ?_) h)
      by_cases hc : c = b
      · rw [hc]
        exact e0
      · exact rcS_out hc
def dn2 (N : Nat) (o x f t : Int32) (k b : Nat) (S : GS) : GS := if tch N f t (2 * b) = true then dn N o x f t k (2 * b) (opS N b S) else opS N b S
def dn3 (N : Nat) (o x f t : Int32) (k b : Nat) (S : GS) : GS := if tch N f t (2 * b + 1) = true then dn N o x f t k (2 * b + 1) (dn2 N o x f t k b S) else dn2 N o x f t k b S
theorem dn_re {N : Nat} {o x f t : Int32} {k b : Nat} {S : GS} (h : f ≤ gF N b ∧ gL N b ≤ t) : dn N o x f t (k + 1) b S = rcS N o x b S := by rw [dn, if_pos h]
theorem dn_lf {N : Nat} {o x f t : Int32} {k b : Nat} {S : GS} (h : ¬ (f ≤ gF N b ∧ gL N b ≤ t)) (hi : gIn N b = false) : dn N o x f t (k + 1) b S = S := by rw [dn, if_neg h, if_pos hi]
theorem dn_in {N : Nat} {o x f t : Int32} {k b : Nat} {S : GS} (h : ¬ (f ≤ gF N b ∧ gL N b ≤ t)) (hi : gIn N b = true) : dn N o x f t (k + 1) b S = (teV b (dn3 N o x f t k b S).1, (dn3 N o x f t k b S).2) := by
  rw [dn, if_neg h, if_neg (by rw [hi]; decide)]
  rfl
theorem dn_out {N : Nat} {o x f t : Int32} : ∀ (k b : Nat) (S : GS) (c : Nat), ¬ un b c → (dn N o x f t k b S).1 c = S.1 c
  | 0, _, _, _, _ => rfl
  | k + 1, b, S, c, hc => by
    have c0 : c ≠ b := fun e => hc (by rw [e]; exact un_rf b)
    have c1 : c ≠ 2 * b := fun e => hc (by rw [e]; exact un_l (un_rf _))
    have c2 : c ≠ 2 * b + 1 := fun e => hc (by rw [e]; exact un_r (un_rf _))
    by_cases h : f ≤ gF N b ∧ gL N b ≤ t
    · rw [dn_re h]
      exact rcS_out c0
    · cases hi : gIn N b with
      | false => rw [dn_lf h hi]
      | true =>
        rw [dn_in h hi]
        show teV b (dn3 N o x f t k b S).1 c = S.1 c
        unfold teV
        rw [if_neg c0]
        have e2 : (dn2 N o x f t k b S).1 c = S.1 c := by
          unfold dn2
          split
          · rw [dn_out k (2 * b) _ c (fun z => hc (un_l z))]
            exact opS_out c0 c1 c2
          · exact opS_out c0 c1 c2
        unfold dn3
        split
        · rw [dn_out k (2 * b + 1) _ c (fun z => hc (un_r z))]
          exact e2
        · exact e2
theorem dn2_n {N : Nat} {o x f t : Int32} {k b c : Nat} {S : GS} (h : ¬ un (2 * b) c) : (dn2 N o x f t k b S).1 c = (opS N b S).1 c := by
  unfold dn2
  split
  · exact dn_out k _ _ c h
  · rfl
theorem dn3_n {N : Nat} {o x f t : Int32} {k b c : Nat} {S : GS} (h : ¬ un (2 * b + 1) c) : (dn3 N o x f t k b S).1 c = (dn2 N o x f t k b S).1 c := by
  unfold dn3
  split
  · exact dn_out k _ _ c h
  · rfl
theorem un_nb {b : Nat} (hb : 1 ≤ b) : ¬ un (2 * b) b ∧ ¬ un (2 * b + 1) b := ⟨fun h => by have := un_ge h; omega, fun h => by have := un_ge h; omega⟩
theorem GB_dn {N : Nat} {o x f t : Int32} (h2 : 2 ≤ N) (h32 : N ≤ 32) (hx : na x ≤ 999) : ∀ (k b : Nat) (S : GS) (K : Nat), 1 ≤ b → b < 64 → K < 900000000 → GB N S.1 k K b → GB N (dn N o x f t k b S).1 k (K + 999) b
  | 0, _, _, _, _, _, _, h => h.elim
  | k + 1, b, S, K, hb1, hb, hK, hG => by
    by_cases h : f ≤ gF N b ∧ gL N b ≤ t
    · rw [dn_re h]
      exact GB_rc h2 h32 hb1 hb hx hG
    · cases hi : gIn N b with
      | false =>
        rw [dn_lf h hi]
        exact GB_mono (by omega) hG
      | true =>
        rw [dn_in h hi]
        have hc := (geo_in h2 h32 hb hi).1
        have z := opS_z (N := N) (b := b) (S := S)
        obtain ⟨h1, h2', h3, h4, -⟩ := GB_opS h2 h32 hb1 hb hi (by omega) hG
        obtain ⟨-, g2, g3⟩ := h4 hi
        rw [z.1, na_z] at g2 g3
        rw [Nat.sub_zero] at g2 g3
        have q2 : GB N (dn2 N o x f t k b S).1 k (K + 999) (2 * b) := by
          unfold dn2
          split
          · exact GB_dn h2 h32 hx k (2 * b) _ K (by omega) (by omega) hK g2
          · exact GB_mono (by omega) g2
        have q3 : GB N (dn2 N o x f t k b S).1 k K (2 * b + 1) := GB_cg (fun c hc => dn2_n (fun z => un_dj hb1 z hc)) g3
        have r2 : GB N (dn3 N o x f t k b S).1 k (K + 999) (2 * b) := GB_cg (fun c hc => dn3_n (fun z => un_dj hb1 hc z)) q2
        have r3 : GB N (dn3 N o x f t k b S).1 k (K + 999) (2 * b + 1) := by
          unfold dn3
          split
          · exact GB_dn h2 h32 hx k (2 * b + 1) _ K (by omega) (by omega) hK q3
          · exact GB_mono (by omega) q3
        have eb : (dn3 N o x f t k b S).1 b = (opS N b S).1 b := (dn3_n (un_nb hb1).2).trans (dn2_n (un_nb hb1).1)
        show GB N (teV b (dn3 N o x f t k b S).1) (k + 1) (K + 999) b
        generalize (dn3 N o x f t k b S).1 = W at *
        have e0 : teV b W b = tel (W b) (W (2 * b)) (W (2 * b + 1)) := if_pos rfl
        have e1 : ∀ c, c ≠ b → teV b W c = W c := fun c hc => if_neg hc
        have hr : (teV b W b).2.2.2.1 = 0 := by rw [e0, eb]; exact z.1
        have hs : (teV b W b).2.2.2.2.1 = 0 := by rw [e0, eb]; exact z.2
        have hv : (teV b W b).2.2.2.2.2 = ((opS N b S).1 b).2.2.2.2.2 := by rw [e0, eb]; rfl
        have hl : (teV b W b).2.2.1 = imin (W (2 * b)).2.2.1 (W (2 * b + 1)).2.2.1 := by rw [e0]; rfl
        refine ⟨by rw [hr, na_z]; omega, by rw [hl]; exact na_imin (GB_low r2) (GB_low r3), by rw [hv]; exact h3, fun _ => ⟨?_, ?_, ?_⟩, fun hn => by rw [hi] at hn; cases hn⟩
        · unfold LC
          rw [hl, hs, if_pos rfl, hr, Int32.add_zero, e1 (2 * b) (by omega), e1 (2 * b + 1) (by omega)]
        · rw [hr, na_z]
          exact GB_cg (fun c hc => e1 c (by have := un_ge hc; omega)) r2
        · rw [hr, na_z]
          exact GB_cg (fun c hc => e1 c (by have := un_ge hc; omega)) r3
