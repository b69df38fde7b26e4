/-! what a branch tells, all three; kept by all that is done -/
def cn (N b : Nat) : Int64 := (gL N b - gF N b + 1).toInt64
theorem cn_all : (List.range 33).all (fun N => decide (N < 2) || (List.range 64).all (fun b => !gIn N b || decide (cn N b = cn N (2 * b) + cn N (2 * b + 1)))) = true := by decide +kernel
theorem cn_in {N b : Nat} (h2 : 2 ≤ N) (h32 : N ≤ 32) (hb : b < 64) (hi : gIn N b = true) : cn N b = cn N (2 * b) + cn N (2 * b + 1) := by
  have h := List.all_eq_true.mp cn_all N (List.mem_range.mpr (by omega))
  rcases Bool.or_eq_true_iff.mp h with h | h
  · exact absurd (of_decide_eq_true h) (by omega)
  · have h := List.all_eq_true.mp h b (List.mem_range.mpr hb)
    rw [hi] at h
    simpa using h
theorem cl_all : (List.range 33).all (fun N => decide (N < 2) || (List.range 64).all (fun b => gIn N b || !gEx N b || decide (cn N b = 1 ∧ gF N b = gL N b))) = true := by decide +kernel
theorem cn_lf {N b : Nat} (h2 : 2 ≤ N) (h32 : N ≤ 32) (hb : b < 64) (he : gEx N b = true) (hi : gIn N b = false) : cn N b = 1 ∧ gF N b = gL N b := by
  have h := List.all_eq_true.mp cl_all N (List.mem_range.mpr (by omega))
  rcases Bool.or_eq_true_iff.mp h with h | h
  · exact absurd (of_decide_eq_true h) (by omega)
  · have h := List.all_eq_true.mp h b (List.mem_range.mpr hb)
    rw [hi, he] at h
    simpa using h
theorem na_l {x y : Int32} (h : na x + na y < 2147483648) : (x + y).toInt64 = x.toInt64 + y.toInt64 := by
  apply Int64.toInt_inj.mp
  rw [Int64.toInt_add, Int32.toInt_toInt64, Int32.toInt_toInt64, Int32.toInt_toInt64, na_ta h]
  unfold na at h
  rw [Int.bmod_eq_of_le]
  · show -(9223372036854775808 : Int) ≤ _
    omega
  · show _ < (9223372036854775808 : Int)
    omega
theorem imax_add {a b r : Int32} (ha : na a + na r < 2147483648) (hb : na b + na r < 2147483648) : imax (a + r) (b + r) = imax a b + r := by
  unfold imax
  have e1 := na_ta ha
  have e2 := na_ta hb
  by_cases h : a < b
  · rw [if_pos h, if_pos]
    rw [Int32.lt_iff_toInt_lt] at h ⊢
    omega
  · rw [if_neg h, if_neg]
    rw [Int32.lt_iff_toInt_lt] at h ⊢
    omega
theorem imax_self {a : Int32} : imax a a = a := by
  unfold imax
  split <;> rfl
def LCh (V : Val) (b : Nat) : Prop := (V b).2.1 = (if (V b).2.2.2.2.1 = 0 then imax (V (2 * b)).2.1 (V (2 * b + 1)).2.1 else (V b).2.2.2.2.2) + (V b).2.2.2.1
def LCw (N : Nat) (V : Val) (b : Nat) : Prop := (V b).1 = (if (V b).2.2.2.2.1 = 0 then (V (2 * b)).1 + (V (2 * b + 1)).1 else (V b).2.2.2.2.2.toInt64 * cn N b) + (V b).2.2.2.1.toInt64 * cn N b
/-- behind the bounds: the greatest height and the water, too -/
def CB (N : Nat) (V : Val) : Nat → Nat → Nat → Prop
  | 0, _, _ => False
  | k + 1, K, b => na (V b).2.2.2.1 ≤ K ∧ na (V b).2.1 ≤ K + 999 ∧ na (V b).2.2.2.2.2 ≤ 999 ∧ (gIn N b = true → (LCh V b ∧ LCw N V b) ∧ CB N V k (K - na (V b).2.2.2.1) (2 * b) ∧ CB N V k (K - na (V b).2.2.2.1) (2 * b + 1)) ∧ (gIn N b = false → (V b).1 = (V b).2.1.toInt64)
theorem CB_mono {N : Nat} {V : Val} : ∀ {k K K' b : Nat}, K ≤ K' → CB N V k K b → CB N V k K' b
  | 0, _, _, _, _, h => h.elim
  | k + 1, K, K', b, hK, ⟨h1, h2, h3, h4, h5⟩ => ⟨by omega, by omega, h3, fun hi => ⟨(h4 hi).1, CB_mono (by omega) (h4 hi).2.1, CB_mono (by omega) (h4 hi).2.2⟩, h5⟩
theorem CB_cg {N : Nat} {V V' : Val} : ∀ {k K b : Nat}, (∀ c, un b c → V' c = V c) → CB N V k K b → CB N V' k K b
  | 0, _, _, _, h => h.elim
  | k + 1, K, b, e, ⟨h1, h2, h3, h4, h5⟩ => by
    have e0 := e b (un_rf b)
    have e1 := e (2 * b) (un_l (un_rf _))
    have e2 := e (2 * b + 1) (un_r (un_rf _))
    refine ⟨by rw [e0]; exact h1, by rw [e0]; exact h2, by rw [e0]; exact h3, fun hi => ?_, fun hi => by rw [e0]; exact h5 hi⟩
    obtain ⟨⟨g1, g1'⟩, g2, g3⟩ := h4 hi
    refine ⟨⟨?_, ?_⟩, ?_, ?_⟩
    · unfold LCh at g1 ⊢
      rw [e0, e1, e2]
      exact g1
    · unfold LCw at g1' ⊢
      rw [e0, e1, e2]
      exact g1'
    · rw [e0]
      exact CB_cg (fun c hc => e c (un_l hc)) g2
    · rw [e0]
      exact CB_cg (fun c hc => e c (un_r hc)) g3
theorem CB_hi {N : Nat} {V : Val} {k K b : Nat} (h : CB N V k K b) : na (V b).2.1 ≤ K + 999 := by
  cases k with
  | zero => exact h.elim
  | succ k => exact h.2.1
theorem un_ex {N b : Nat} (h2 : 2 ≤ N) (h32 : N ≤ 32) (hb : b < 64) (hi : gIn N b = true) : gEx N (2 * b) = true ∧ gEx N (2 * b + 1) = true := ⟨(geo_in h2 h32 hb hi).2.2.2.2.2.2.2.1, (geo_in h2 h32 hb hi).2.2.2.2.2.2.2.2⟩
theorem CB_R {N : Nat} {V V' : Val} {k K b s : Nat} {x : Int32} (h2 : 2 ≤ N) (h32 : N ≤ 32) (hb1 : 1 ≤ b) (hb : b < 64) (hex : gEx N b = true) (hx : na x ≤ s) (hs9 : K + s < 1100000000) (e0 : V' b = tkR (gF N b) (gL N b) x (V b)) (ec : ∀ c, un b c → c ≠ b → V' c = V c) (h : CB N V k K b) : CB N V' k (K + s) b := by
  cases k with
  | zero => exact h.elim
  | succ k =>
    obtain ⟨h1, h2', h3, h4, h5⟩ := h
    have hr : (V' b).2.2.2.1 = if gF N b < gL N b then (V b).2.2.2.1 + x else (V b).2.2.2.1 := by rw [e0]; rfl
    have hh : (V' b).2.1 = (V b).2.1 + x := by rw [e0]; rfl
    have hw : (V' b).1 = (V b).1 + x.toInt64 * cn N b := by rw [e0]; rfl
    have hv : (V' b).2.2.2.2.2 = (V b).2.2.2.2.2 := by rw [e0]; rfl
    have hs : (V' b).2.2.2.2.1 = (V b).2.2.2.2.1 := by rw [e0]; rfl
    have hr1 : na (V' b).2.2.2.1 ≤ na (V b).2.2.2.1 + s := by
      rw [hr]
      split
      · have := na_add (V b).2.2.2.1 x
        omega
      · omega
    have hl1 := na_add (V b).2.1 x
    refine ⟨by omega, by rw [hh]; omega, by rw [hv]; exact h3, fun hi => ?_, fun hi => ?_⟩
    · obtain ⟨⟨g1, g1'⟩, g2, g3⟩ := h4 hi
      have e1 : V' (2 * b) = V (2 * b) := ec _ (un_l (un_rf _)) (by omega)
      have e2 : V' (2 * b + 1) = V (2 * b + 1) := ec _ (un_r (un_rf _)) (by omega)
      refine ⟨⟨?_, ?_⟩, CB_mono (by omega) (CB_cg (fun c hc => ec c (un_l hc) (by have := un_ge hc; omega)) g2), CB_mono (by omega) (CB_cg (fun c hc => ec c (un_r hc) (by have := un_ge hc; omega)) g3)⟩
      · unfold LCh at g1 ⊢
        rw [hh, hs, hr, hv, e1, e2, if_pos ((geo_lt h2 h32 hb).mpr hi), g1, Int32.add_assoc]
      · unfold LCw at g1' ⊢
        rw [hw, hs, hr, hv, e1, e2, if_pos ((geo_lt h2 h32 hb).mpr hi), g1', na_l (by omega), Int64.add_mul, Int64.add_assoc]
    · have hcn := (cn_lf h2 h32 hb hex hi).1
      rw [hw, hh, h5 hi, hcn, Int64.mul_one, na_l (by omega)]
theorem CB_L {N : Nat} {V V' : Val} {k K b : Nat} {x : Int32} (h2 : 2 ≤ N) (h32 : N ≤ 32) (hb1 : 1 ≤ b) (hb : b < 64) (hex : gEx N b = true) (hx : na x ≤ 999) (e0 : V' b = tkL (gF N b) (gL N b) x (V b)) (ec : ∀ c, un b c → c ≠ b → V' c = V c) (h : CB N V k K b) : CB N V' k K b := by
  cases k with
  | zero => exact h.elim
  | succ k =>
    obtain ⟨h1, h2', h3, h4, h5⟩ := h
    have hr : (V' b).2.2.2.1 = if gF N b < gL N b then 0 else (V b).2.2.2.1 := by rw [e0]; rfl
    have hw : (V' b).1 = x.toInt64 * cn N b := by rw [e0]; rfl
    have hh : (V' b).2.1 = x := by rw [e0]; rfl
    have hv : (V' b).2.2.2.2.2 = if gF N b < gL N b then x else (V b).2.2.2.2.2 := by rw [e0]; rfl
    have hs : (V' b).2.2.2.2.1 = if gF N b < gL N b then 1 else (V b).2.2.2.2.1 := by rw [e0]; rfl
    have hr1 : na (V' b).2.2.2.1 ≤ na (V b).2.2.2.1 := by
      rw [hr]
      split
      · rw [na_z]
        omega
      · omega
    refine ⟨by omega, by rw [hh]; omega, ?_, fun hi => ?_, fun hi => ?_⟩
    · rw [hv]
      split
      · exact hx
      · exact h3
    · obtain ⟨g1, g2, g3⟩ := h4 hi
      have hlt := (geo_lt h2 h32 hb).mpr hi
      rw [if_pos hlt] at hr hv hs
      refine ⟨⟨?_, ?_⟩, CB_mono (by omega) (CB_cg (fun c hc => ec c (un_l hc) (by have := un_ge hc; omega)) g2), CB_mono (by omega) (CB_cg (fun c hc => ec c (un_r hc) (by have := un_ge hc; omega)) g3)⟩
      · unfold LCh
        rw [hh, hs, hr, hv, if_neg (by decide), Int32.add_zero]
      · unfold LCw
        have z64 : (0 : Int32).toInt64 = 0 := by decide
        rw [hw, hs, hr, hv, if_neg (by decide), z64, Int64.zero_mul, Int64.add_zero]
    · have hcn := (cn_lf h2 h32 hb hex hi).1
      rw [hw, hh, hcn, Int64.mul_one]
theorem CB_ch {N : Nat} {V V' : Val} {k K a s : Nat} {β : BS} (h2 : 2 ≤ N) (h32 : N ≤ 32) (ha1 : 1 ≤ a) (ha : a < 64) (hex : gEx N a = true) (hr : na β.2.2.2.1 ≤ s) (hs9 : K + s < 1100000000) (hv : na β.2.2.2.2.2 ≤ 999) (e0 : V' a = chl (gF N a) (gL N a) β (V a)) (ec : ∀ c, un a c → c ≠ a → V' c = V c) (h : CB N V k K a) : CB N V' k (K + s) a := by
  unfold chl at e0
  by_cases h0 : β.2.2.2.2.1 = 0
  · rw [if_pos h0] at e0
    exact CB_R h2 h32 ha1 ha hex hr hs9 e0 ec h
  · rw [if_neg h0] at e0
    refine CB_R (V := fun c => if c = a then tkL (gF N a) (gL N a) β.2.2.2.2.2 (V a) else V c) h2 h32 ha1 ha hex hr hs9 ?_ ?_ (CB_L (V := V) h2 h32 ha1 ha hex hv ?_ ?_ h)
    · rw [e0, if_pos rfl]
    · intro c hc hn
      rw [if_neg hn]
      exact ec c hc hn
    · exact if_pos rfl
    · intro c hc hn
      exact if_neg hn
theorem CB_op {N : Nat} {V : Val} {k K b : Nat} (h2 : 2 ≤ N) (h32 : N ≤ 32) (hb1 : 1 ≤ b) (hb : b < 64) (hi : gIn N b = true) (hK : K < 1000000000) (h : CB N V k K b) : CB N (opV N b V) k K b := by
  cases k with
  | zero => exact h.elim
  | succ k =>
    obtain ⟨h1, h2', h3, h4, h5⟩ := h
    obtain ⟨⟨g1, g1'⟩, g2, g3⟩ := h4 hi
    have hc := (geo_in h2 h32 hb hi).1
    obtain ⟨x1, x2⟩ := un_ex h2 h32 hb hi
    have e0 : opV N b V b = opd (V b) := by unfold opV; rw [if_pos rfl]
    have e1 : opV N b V (2 * b) = chl (gF N (2 * b)) (gL N (2 * b)) (V b) (V (2 * b)) := by
      unfold opV
      rw [if_neg (by omega), if_pos (Or.inl rfl)]
    have e2 : opV N b V (2 * b + 1) = chl (gF N (2 * b + 1)) (gL N (2 * b + 1)) (V b) (V (2 * b + 1)) := by
      unfold opV
      rw [if_neg (by omega), if_pos (Or.inr rfl)]
    have hr : (opV N b V b).2.2.2.1 = 0 := by rw [e0]; rfl
    have hs : (opV N b V b).2.2.2.2.1 = 0 := by rw [e0]; rfl
    have hh : (opV N b V b).2.1 = (V b).2.1 := by rw [e0]; rfl
    have hw : (opV N b V b).1 = (V b).1 := by rw [e0]; rfl
    have hv : (opV N b V b).2.2.2.2.2 = 0 := by rw [e0]; rfl
    have l1 : (opV N b V (2 * b)).2.1 = (if (V b).2.2.2.2.1 = 0 then (V (2 * b)).2.1 else (V b).2.2.2.2.2) + (V b).2.2.2.1 := by
      rw [e1]
      unfold chl
      split <;> rfl
    have l2 : (opV N b V (2 * b + 1)).2.1 = (if (V b).2.2.2.2.1 = 0 then (V (2 * b + 1)).2.1 else (V b).2.2.2.2.2) + (V b).2.2.2.1 := by
      rw [e2]
      unfold chl
      split <;> rfl
    have w1 : (opV N b V (2 * b)).1 = (if (V b).2.2.2.2.1 = 0 then (V (2 * b)).1 else (V b).2.2.2.2.2.toInt64 * cn N (2 * b)) + (V b).2.2.2.1.toInt64 * cn N (2 * b) := by
      rw [e1]
      unfold chl
      split <;> rfl
    have w2 : (opV N b V (2 * b + 1)).1 = (if (V b).2.2.2.2.1 = 0 then (V (2 * b + 1)).1 else (V b).2.2.2.2.2.toInt64 * cn N (2 * b + 1)) + (V b).2.2.2.1.toInt64 * cn N (2 * b + 1) := by
      rw [e2]
      unfold chl
      split <;> rfl
    have b1 := CB_hi g2
    have b2 := CB_hi g3
    refine ⟨by rw [hr, na_z]; omega, by rw [hh]; exact h2', by rw [hv, na_z]; omega, fun _ => ⟨⟨?_, ?_⟩, ?_, ?_⟩, fun hn => by rw [hi] at hn; cases hn⟩
    · unfold LCh at g1 ⊢
      rw [hh, hs, if_pos rfl, hr, Int32.add_zero, l1, l2, g1]
      by_cases h0 : (V b).2.2.2.2.1 = 0
      · rw [if_pos h0, if_pos h0, if_pos h0, imax_add (by omega) (by omega)]
      · rw [if_neg h0, if_neg h0, if_neg h0, imax_self]
    · unfold LCw at g1' ⊢
      have z64 : (0 : Int32).toInt64 = 0 := by decide
      rw [hw, hs, if_pos rfl, hr, z64, Int64.zero_mul, Int64.add_zero, w1, w2, g1', cn_in h2 h32 hb hi]
      by_cases h0 : (V b).2.2.2.2.1 = 0
      · rw [if_pos h0, if_pos h0, if_pos h0, Int64.mul_add]
        generalize (V (2 * b)).1 = p
        generalize (V (2 * b + 1)).1 = q
        generalize (V b).2.2.2.1.toInt64 * cn N (2 * b) = r
        generalize (V b).2.2.2.1.toInt64 * cn N (2 * b + 1) = s
        rw [Int64.add_assoc, Int64.add_assoc, ← Int64.add_assoc q r s, ← Int64.add_assoc r q s, Int64.add_comm q r]
      · rw [if_neg h0, if_neg h0, if_neg h0, Int64.mul_add, Int64.mul_add]
        generalize (V b).2.2.2.2.2.toInt64 * cn N (2 * b) = p
        generalize (V b).2.2.2.2.2.toInt64 * cn N (2 * b + 1) = q
        generalize (V b).2.2.2.1.toInt64 * cn N (2 * b) = r
        generalize (V b).2.2.2.1.toInt64 * cn N (2 * b + 1) = s
        rw [Int64.add_assoc, Int64.add_assoc, ← Int64.add_assoc q r s, ← Int64.add_assoc r q s, Int64.add_comm q r]
    · rw [hr, na_z]
      have := CB_ch (k := k) (V' := opV N b V) h2 h32 (by omega) (by omega) x1 (Nat.le_refl _) (by omega) h3 e1 (fun c hc hn => opV_out (by have := un_ge hc; omega) hn (fun e => un_dj hb1 hc (by rw [e]; exact un_rf _))) g2
      exact CB_mono (by omega) this
    · rw [hr, na_z]
      have := CB_ch (k := k) (V' := opV N b V) h2 h32 (by omega) (by omega) x2 (Nat.le_refl _) (by omega) h3 e2 (fun c hc hn => opV_out (by have := un_ge hc; omega) (by have := un_ge hc; omega) hn) g3
      exact CB_mono (by omega) this
theorem CB_opS {N : Nat} {S : GS} {k K b : Nat} (h2 : 2 ≤ N) (h32 : N ≤ 32) (hb1 : 1 ≤ b) (hb : b < 64) (hi : gIn N b = true) (hK : K < 1000000000) (h : CB N S.1 k K b) : CB N (opS N b S).1 k K b := by
  unfold opS
  split
  · exact CB_op h2 h32 hb1 hb hi hK h
  · exact h
theorem CB_rc {N : Nat} {S : GS} {k K b : Nat} {o x : Int32} (h2 : 2 ≤ N) (h32 : N ≤ 32) (hb1 : 1 ≤ b) (hb : b < 64) (hex : gEx N b = true) (hx : na x ≤ 999) (hK : K < 1000000000) (h : CB N S.1 k K b) : CB N (rcS N o x b S).1 k (K + 999) b := by
  have e0 : (rcS N o x b S).1 b = if o = -13 then tkR (gF N b) (gL N b) x (S.1 b) else if o = -14 then tkL (gF N b) (gL N b) x (S.1 b) else S.1 b := if_pos rfl
  by_cases h13 : o = -13
  · rw [if_pos h13] at e0
    exact CB_R h2 h32 hb1 hb hex hx (by omega) e0 (fun c _ hn => rcS_out hn) h
  · rw [if_neg h13] at e0
    by_cases h14 : o = -14
    · rw [if_pos h14] at e0
      exact CB_mono (by omega) (CB_L h2 h32 hb1 hb hex hx e0 (fun c _ hn => rcS_out hn) h)
    · rw [if_neg h14] at e0
      refine CB_mono (by omega) (CB_cg (fun c _ => ?_) h)
      by_cases hc : c = b
      · rw [hc]
        exact e0
      · exact rcS_out hc
theorem CB_dn {N : Nat} {o x f t : Int32} (h2 : 2 ≤ N) (h32 : N ≤ 32) (hx : na x ≤ 999) : ∀ (k b : Nat) (S : GS) (K : Nat), 1 ≤ b → b < 64 → gEx N b = true → K < 900000000 → CB N S.1 k K b → CB N (dn N o x f t k b S).1 k (K + 999) b
  | 0, _, _, _, _, _, _, _, h => h.elim
  | k + 1, b, S, K, hb1, hb, hex, hK, hG => by
    by_cases h : f ≤ gF N b ∧ gL N b ≤ t
    · rw [dn_re h]
      exact CB_rc h2 h32 hb1 hb hex hx (by omega) hG
    · cases hi : gIn N b with
      | false =>
        rw [dn_lf h hi]
        exact CB_mono (by omega) hG
      | true =>
        rw [dn_in h hi]
        have hc := (geo_in h2 h32 hb hi).1
        obtain ⟨x1, x2⟩ := un_ex h2 h32 hb hi
        have z := opS_z (N := N) (b := b) (S := S)
        obtain ⟨h1, h2', h3, h4, -⟩ := CB_opS h2 h32 hb1 hb hi (by omega) hG
        obtain ⟨-, g2, g3⟩ := h4 hi
        rw [z.1, na_z] at g2 g3
        rw [Nat.sub_zero] at g2 g3
        have q2 : CB N (dn2 N o x f t k b S).1 k (K + 999) (2 * b) := by
          unfold dn2
          split
          · exact CB_dn h2 h32 hx k (2 * b) _ K (by omega) (by omega) x1 hK g2
          · exact CB_mono (by omega) g2
        have q3 : CB N (dn2 N o x f t k b S).1 k K (2 * b + 1) := CB_cg (fun c hc => dn2_n (fun z => un_dj hb1 z hc)) g3
        have r2 : CB N (dn3 N o x f t k b S).1 k (K + 999) (2 * b) := CB_cg (fun c hc => dn3_n (fun z => un_dj hb1 hc z)) q2
        have r3 : CB N (dn3 N o x f t k b S).1 k (K + 999) (2 * b + 1) := by
          unfold dn3
          split
          · exact CB_dn h2 h32 hx k (2 * b + 1) _ K (by omega) (by omega) x2 hK q3
          · exact CB_mono (by omega) q3
        have eb : (dn3 N o x f t k b S).1 b = (opS N b S).1 b := (dn3_n (un_nb hb1).2).trans (dn2_n (un_nb hb1).1)
        show CB N (teV b (dn3 N o x f t k b S).1) (k + 1) (K + 999) b
        generalize (dn3 N o x f t k b S).1 = W at *
        have e0 : teV b W b = tel (W b) (W (2 * b)) (W (2 * b + 1)) := if_pos rfl
        have e1 : ∀ c, c ≠ b → teV b W c = W c := fun c hc => if_neg hc
        have hr : (teV b W b).2.2.2.1 = 0 := by rw [e0, eb]; exact z.1
        have hs : (teV b W b).2.2.2.2.1 = 0 := by rw [e0, eb]; exact z.2
        have hv : (teV b W b).2.2.2.2.2 = ((opS N b S).1 b).2.2.2.2.2 := by rw [e0, eb]; rfl
        have hh : (teV b W b).2.1 = imax (W (2 * b)).2.1 (W (2 * b + 1)).2.1 := by rw [e0]; rfl
        have hw : (teV b W b).1 = (W (2 * b)).1 + (W (2 * b + 1)).1 := by rw [e0]; rfl
        have z64 : (0 : Int32).toInt64 = 0 := by decide
        refine ⟨by rw [hr, na_z]; omega, by rw [hh]; exact na_imax (CB_hi r2) (CB_hi r3), by rw [hv]; exact h3, fun _ => ⟨⟨?_, ?_⟩, ?_, ?_⟩, fun hn => by rw [hi] at hn; cases hn⟩
        · unfold LCh
          rw [hh, hs, if_pos rfl, hr, Int32.add_zero, e1 (2 * b) (by omega), e1 (2 * b + 1) (by omega)]
        · unfold LCw
          rw [hw, hs, if_pos rfl, hr, z64, Int64.zero_mul, Int64.add_zero, e1 (2 * b) (by omega), e1 (2 * b + 1) (by omega)]
        · rw [hr, na_z]
          exact CB_cg (fun c hc => e1 c (by have := un_ge hc; omega)) r2
        · rw [hr, na_z]
          exact CB_cg (fun c hc => e1 c (by have := un_ge hc; omega)) r3
