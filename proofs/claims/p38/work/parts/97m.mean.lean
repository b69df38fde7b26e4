/-! the mean: no NaN comes of it -/
theorem fk_t : FP.Core.Fmt.tails FP.Core.b64 = 4503599627370496 := by decide +kernel
theorem fk_e : FP.Core.Fmt.exps FP.Core.b64 = 2048 := by decide +kernel
theorem fk_m : FP.Core.Fmt.qmin FP.Core.b64 = -1074 := by decide +kernel
theorem fk_x : FP.Core.Fmt.qmax FP.Core.b64 = 971 := by decide +kernel
theorem fk_p : 2 ^ FP.Core.Fmt.p FP.Core.b64 = 9007199254740992 := by decide +kernel
/-- a number, or an infinity, as it is written -/
def fk_F (n : Nat) : Prop := n < 18446744073709551616 ∧ n / 4503599627370496 % 2048 ≤ 2046
def fk_I (n : Nat) : Prop := n < 18446744073709551616 ∧ n / 4503599627370496 % 2048 = 2047 ∧ n % 4503599627370496 = 0
theorem fk_enc {s : Bool} {c : Nat} {q : Int} (hc : c < 9007199254740992) (hq : q ≤ 971) : fk_F (FP.Core.encode FP.Core.b64 (.fin s c q)) := by
  show fk_F (if c < FP.Core.Fmt.tails FP.Core.b64 then FP.Core.assemble FP.Core.b64 s 0 c else FP.Core.assemble FP.Core.b64 s ((q - FP.Core.Fmt.qmin FP.Core.b64).toNat + 1) (c - FP.Core.Fmt.tails FP.Core.b64))
  rw [fk_t, fk_m]
  by_cases h : c < 4503599627370496
  · rw [if_pos h]
    unfold FP.Core.assemble
    rw [fk_t, fk_e]
    cases s
    · show fk_F ((0 * 2048 + 0) * 4503599627370496 + c)
      unfold fk_F
      omega
    · show fk_F ((1 * 2048 + 0) * 4503599627370496 + c)
      unfold fk_F
      omega
  · rw [if_neg h]
    unfold FP.Core.assemble
    rw [fk_t, fk_e]
    have h1 : (q - -1074).toNat + 1 ≤ 2046 := by omega
    generalize (q - -1074).toNat + 1 = x at *
    cases s
    · show fk_F ((0 * 2048 + x) * 4503599627370496 + (c - 4503599627370496))
      unfold fk_F
      omega
    · show fk_F ((1 * 2048 + x) * 4503599627370496 + (c - 4503599627370496))
      unfold fk_F
      omega
theorem fk_inf {s : Bool} : fk_I (FP.Core.encode FP.Core.b64 (.inf s)) := by
  unfold FP.Core.encode FP.Core.assemble
  rw [fk_t, fk_e]
  cases s
  · show fk_I ((0 * 2048 + (2048 - 1)) * 4503599627370496 + 0)
    unfold fk_I
    omega
  · show fk_I ((1 * 2048 + (2048 - 1)) * 4503599627370496 + 0)
    unfold fk_I
    omega
theorem fk_dec {n : Nat} (h : fk_F n) : ∃ s c q, FP.Core.decode FP.Core.b64 n = .fin s c q := by
  unfold FP.Core.decode FP.Core.fieldE
  rw [fk_t, fk_e, if_neg (by have := h.2; omega)]
  split
  · exact ⟨_, _, _, rfl⟩
  · exact ⟨_, _, _, rfl⟩
theorem fk_deI {n : Nat} (h : fk_I n) : ∃ s, FP.Core.decode FP.Core.b64 n = .inf s := by
  unfold FP.Core.decode FP.Core.fieldE FP.Core.fieldT
  rw [fk_t, fk_e, if_pos (by have := h.2.1; omega), if_pos h.2.2]
  exact ⟨_, rfl⟩
theorem fk_bnd {s : Bool} {c : Nat} {q : Int} (hc : c < 9007199254740992) : (∃ s' c' q', FP.Core.bound FP.Core.b64 s c q = .fin s' c' q' ∧ c' < 9007199254740992 ∧ q' ≤ 971) ∨ ∃ s', FP.Core.bound FP.Core.b64 s c q = .inf s' := by
  unfold FP.Core.bound
  rw [fk_x]
  by_cases h : q ≤ 971
  · rw [if_pos h]
    exact Or.inl ⟨_, _, _, rfl, hc, h⟩
  · rw [if_neg h]
    exact Or.inr ⟨_, rfl⟩
theorem fk_rnd {s : Bool} {num den : Nat} {e : Int} : (∃ s' c' q', FP.Core.roundRatio FP.Core.b64 s num den e = .fin s' c' q' ∧ c' < 9007199254740992 ∧ q' ≤ 971) ∨ ∃ s', FP.Core.roundRatio FP.Core.b64 s num den e = .inf s' := by
  unfold FP.Core.roundRatio
  by_cases h : num = 0
  · rw [if_pos h, fk_m]
    exact Or.inl ⟨_, _, _, rfl, by omega, by omega⟩
  · rw [if_neg h]
    unfold FP.Core.roundAt FP.Core.settle
    rw [fk_p, fk_t]
    split
    · rename_i hc
      exact fk_bnd hc
    · exact fk_bnd (by omega)
theorem fk_qt {num : Nat} (h0 : num ≠ 0) (h : num < 18446744073709551616) : FP.Core.quantum FP.Core.b64 num 1 0 ≤ 11 := by
  have hl : num.log2 < 64 := (Nat.log2_lt h0).mpr h
  have h1 : FP.Core.leading num 1 ≤ 63 := by
    unfold FP.Core.leading
    have e : Nat.log2 1 = 0 := by decide
    simp only [e]
    split <;> omega
  unfold FP.Core.quantum
  rw [fk_m]
  have e : ((FP.Core.Fmt.p FP.Core.b64 : Nat) : Int) = 53 := by decide
  rw [e]
  omega
theorem fk_int {i : Int} (h : i.natAbs < 18446744073709551616) : fk_F (FP.Core.fromInt FP.Core.b64 i) := by
  unfold FP.Core.fromInt FP.Core.ofInt FP.Core.round
  show fk_F (FP.Core.encode FP.Core.b64 (FP.Core.roundRatio FP.Core.b64 (decide (i < 0)) i.natAbs 1 0))
  unfold FP.Core.roundRatio
  by_cases h0 : i.natAbs = 0
  · rw [if_pos h0, fk_m]
    exact fk_enc (by omega) (by omega)
  · rw [if_neg h0]
    have hq := fk_qt h0 h
    unfold FP.Core.roundAt FP.Core.settle FP.Core.bound
    generalize FP.Core.quantum FP.Core.b64 i.natAbs 1 0 = q at *
    rw [fk_p, fk_t, fk_x]
    split
    · rename_i hc
      rw [if_pos (by omega)]
      exact fk_enc hc (by omega)
    · rw [if_pos (by omega)]
      exact fk_enc (by omega) (by omega)
theorem fk_l2d (w : Int64) : ∃ s c q, FP.Core.decode FP.Core.b64 (FP.Core.l2d w).toNat = .fin s c q := by
  have h1 := Int64.toInt_lt w
  have h2 := Int64.le_toInt w
  have h := fk_int (i := w.toInt) (by omega)
  have e : (FP.Core.l2d w).toNat = FP.Core.fromInt FP.Core.b64 w.toInt := UInt64.toNat_ofNat_of_lt' h.1
  rw [e]
  exact fk_dec h
def fk_nz (N : Nat) : Bool := match FP.Core.decode FP.Core.b64 (FP.Core.i2d (nI N)).toNat with
  | .fin _ c _ => decide (c ≠ 0)
  | _ => false
theorem fk_nzA : (List.range 33).all (fun N => decide (N < 2) || fk_nz N) = true := by decide +kernel
theorem fk_i2d {N : Nat} (h2 : 2 ≤ N) (h32 : N ≤ 32) : ∃ s c q, FP.Core.decode FP.Core.b64 (FP.Core.i2d (nI N)).toNat = .fin s c q ∧ c ≠ 0 := by
  have h := List.all_eq_true.mp fk_nzA N (List.mem_range.mpr (by omega))
  simp only [Bool.or_eq_true, decide_eq_true_eq] at h
  have h := h.resolve_left (by omega)
  unfold fk_nz at h
  split at h
  · rename_i s c q e
    exact ⟨s, c, q, e, of_decide_eq_true h⟩
  · cases h
theorem fk_div {w : Int64} {N : Nat} (h2 : 2 ≤ N) (h32 : N ≤ 32) : ∃ n, FP.ddiv (FP.l2d w) (FP.i2d (nI N)) = UInt64.ofNat n ∧ (fk_F n ∨ fk_I n) := by
  obtain ⟨s, c, q, e1⟩ := fk_l2d w
  obtain ⟨t, dd, r, e2, hd⟩ := fk_i2d h2 h32
  refine ⟨FP.Core.div FP.Core.b64 (FP.Core.l2d w).toNat (FP.Core.i2d (nI N)).toNat, rfl, ?_⟩
  unfold FP.Core.div
  rw [e1, e2]
  show fk_F (FP.Core.encode FP.Core.b64 (if dd = 0 then (if c = 0 then .nan else .inf (s != t)) else FP.Core.roundRatio FP.Core.b64 (s != t) c dd (q - r))) ∨ _
  rw [if_neg hd]
  show _ ∨ fk_I (FP.Core.encode FP.Core.b64 (if dd = 0 then (if c = 0 then .nan else .inf (s != t)) else FP.Core.roundRatio FP.Core.b64 (s != t) c dd (q - r)))
  rw [if_neg hd]
  rcases fk_rnd (s := (s != t)) (num := c) (den := dd) (e := q - r) with ⟨s', c', q', e3, h3, h4⟩ | ⟨s', e3⟩
  · rw [e3]
    exact Or.inl (fk_enc h3 h4)
  · rw [e3]
    exact Or.inr fk_inf
theorem fk_and (r : UInt64) : (r &&& 0x7fffffffffffffff).toNat = r.toNat % 9223372036854775808 := by
  rw [UInt64.toNat_and]
  have h1 : (0x7fffffffffffffff : UInt64).toNat = 2 ^ 63 - 1 := by decide
  rw [h1, Nat.and_two_pow_sub_one_eq_mod]
theorem mean_n64 {w : Int64} {N : Nat} (h2 : 2 ≤ N) (h32 : N ≤ 32) : vf_n64 (FP.ddiv (FP.l2d w) (FP.i2d (nI N))) := by
  obtain ⟨n, e, h⟩ := fk_div (w := w) h2 h32
  rw [e]
  unfold vf_n64
  rw [UInt64.le_iff_toNat_le, fk_and]
  have h3 : (0x7ff0000000000000 : UInt64).toNat = 9218868437227405312 := by decide
  rw [h3]
  rcases h with h | h
  · rw [UInt64.toNat_ofNat_of_lt' h.1]
    have := h.2
    have := h.1
    omega
  · rw [UInt64.toNat_ofNat_of_lt' h.1]
    obtain ⟨a, b, c⟩ := h
    omega
theorem cmp_rf (z : Int) : compare z z = .eq := by
  simp [compare, compareOfLessAndEq]
theorem mean_cmp {w : Int64} {N : Nat} (h2 : 2 ≤ N) (h32 : N ≤ 32) : FP.dcmp (FP.ddiv (FP.l2d w) (FP.i2d (nI N))) (FP.ddiv (FP.l2d w) (FP.i2d (nI N))) = some .eq := by
  obtain ⟨n, e, h⟩ := fk_div (w := w) h2 h32
  rw [e]
  show FP.Core.order (FP.Core.decode FP.Core.b64 (UInt64.ofNat n).toNat) (FP.Core.decode FP.Core.b64 (UInt64.ofNat n).toNat) = some .eq
  rcases h with h | h
  · rw [UInt64.toNat_ofNat_of_lt' h.1]
    obtain ⟨s, c, q, e⟩ := fk_dec h
    rw [e]
    show some (compare _ _) = some .eq
    rw [cmp_rf]
  · rw [UInt64.toNat_ofNat_of_lt' h.1]
    obtain ⟨s, e⟩ := fk_deI h
    rw [e]
    show some (compare _ _) = some .eq
    rw [cmp_rf]
