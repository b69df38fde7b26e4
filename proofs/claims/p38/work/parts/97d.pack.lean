/-! four bytes in a number, and back -/
theorem shl_or {x : Int32} {b : Nat} (hx : x.toBitVec.toNat < 2 ^ 24) (hb : b < 256) : ((x <<< (8 : Int32)) ||| nI b).toBitVec.toNat = x.toBitVec.toNat * 256 + b := by
  have hbn : (nI b).toBitVec.toNat = b := pk_tn (by omega)
  have h8 : ((8 : Int32).toBitVec.smod 32) = 8#32 := by decide
  have e1 : (x <<< (8 : Int32)).toBitVec.toNat = x.toBitVec.toNat <<< 8 := by
    rw [Int32.toBitVec_shiftLeft, h8]
    show (x.toBitVec <<< (8#32).toNat).toNat = _
    rw [BitVec.toNat_shiftLeft, Nat.mod_eq_of_lt]
    · rfl
    · show x.toBitVec.toNat <<< 8 < 2 ^ 32
      rw [Nat.shiftLeft_eq]
      omega
  rw [Int32.toBitVec_or, BitVec.toNat_or, e1, hbn, ← Nat.shiftLeft_add_eq_or_of_lt (show b < 2 ^ 8 from hb), Nat.shiftLeft_eq]
theorem shr_tb {x : Int32} {s i : Nat} (hs : s = 0 ∨ s = 8 ∨ s = 16 ∨ s = 24) (hi : i < 8) : (x >>> nI s).toBitVec.toNat.testBit i = x.toBitVec.toNat.testBit (s + i) := by
  have hm : ((nI s).toBitVec.smod 32) = BitVec.ofNat 32 s := by
    rcases hs with rfl | rfl | rfl | rfl <;> decide
  have hn : (BitVec.ofNat 32 s).toNat = s := by
    rcases hs with rfl | rfl | rfl | rfl <;> decide
  rw [Int32.toBitVec_shiftRight, hm, BitVec.testBit_toNat, BitVec.testBit_toNat]
  show (x.toBitVec.sshiftRight (BitVec.ofNat 32 s).toNat).getLsbD i = _
  rw [hn, BitVec.getLsbD_sshiftRight, if_pos (by omega), decide_eq_false (by omega)]
  rfl
theorem b4_v {x : Int32} {k : Nat} (hk : k < 4) : b4 x k = x.toBitVec.toNat / 2 ^ (24 - 8 * k) % 256 := by
  obtain ⟨h1, h2⟩ := b4_i x k
  have hs : ((24 - 8 * nI k) &&& 31 : Int32) = nI (24 - 8 * k) := by
    have : k = 0 ∨ k = 1 ∨ k = 2 ∨ k = 3 := by omega
    rcases this with rfl | rfl | rfl | rfl <;> decide
  rw [hs, pk_and _ 8 (by decide)] at h1
  have hlt : (x >>> nI (24 - 8 * k)).toBitVec.toNat % 2 ^ 8 < 256 := Nat.mod_lt _ (by omega)
  rw [(nI_eq (by omega) (by omega)).mp h1]
  apply Nat.eq_of_testBit_eq
  intro i
  rw [show (256 : Nat) = 2 ^ 8 from rfl, Nat.testBit_mod_two_pow, Nat.testBit_mod_two_pow, Nat.testBit_div_two_pow]
  by_cases hi : i < 8
  · rw [shr_tb (by omega) hi, Nat.add_comm]
  · rw [decide_eq_false hi]
    rfl
/-- the four bytes of a packed number -/
theorem b4_pk {x : Int32} {a b c d : Nat} (ha : a < 256) (hb : b < 256) (hc : c < 256) (hd : d < 256) (hx : x.toBitVec.toNat = ((a * 256 + b) * 256 + c) * 256 + d) : b4 x 0 = a ∧ b4 x 1 = b ∧ b4 x 2 = c ∧ b4 x 3 = d := by
  refine ⟨?_, ?_, ?_, ?_⟩ <;> rw [b4_v (by omega), hx]
  · show (((a * 256 + b) * 256 + c) * 256 + d) / 16777216 % 256 = a
    omega
  · show (((a * 256 + b) * 256 + c) * 256 + d) / 65536 % 256 = b
    omega
  · show (((a * 256 + b) * 256 + c) * 256 + d) / 256 % 256 = c
    omega
  · show (((a * 256 + b) * 256 + c) * 256 + d) / 1 % 256 = d
    omega
/-- the object stays when its cells do -/
theorem XI.keepC {τ τ' : MTau} {μ μ' : MMu} {C : XC} {A : XA} (h : XI τ μ C A) (hk : ∀ z, XCell C z → τ' z = τ z ∧ μ' z = μ z) : XI τ' μ' C A := by
  have ki : ∀ i, i < 17 → τ' (C.1 i) = τ (C.1 i) ∧ μ' (C.1 i) = μ (C.1 i) := fun i hi => hk _ (Or.inl ⟨i, hi, rfl⟩)
  have kn : ∀ b, 1 ≤ b → b < 64 → (τ' (C.2.1 b) = τ (C.2.1 b) ∧ μ' (C.2.1 b) = μ (C.2.1 b)) ∧ τ' (C.2.2 b) = τ (C.2.2 b) ∧ μ' (C.2.2 b) = μ (C.2.2 b) := fun b h1 h2 => ⟨hk _ (Or.inr ⟨b, h1, h2, Or.inl rfl⟩), hk _ (Or.inr ⟨b, h1, h2, Or.inr rfl⟩)⟩
  obtain ⟨h1, h2, ⟨ps, tv, cnt, cur, beh, h3⟩, ⟨sp, pn, h4⟩, ⟨st, oc, sq, M, pm, h5⟩, h6, ⟨pile, h7⟩, ⟨j, h8⟩, ⟨S, d, h9⟩, h10, h11⟩ := h
  obtain ⟨t0, m0⟩ := ki 0 (by omega)
  obtain ⟨t1, m1⟩ := ki 1 (by omega)
  obtain ⟨t2, m2⟩ := ki 2 (by omega)
  obtain ⟨t3, m3⟩ := ki 3 (by omega)
  obtain ⟨t4, m4⟩ := ki 4 (by omega)
  obtain ⟨t5, m5⟩ := ki 5 (by omega)
  obtain ⟨t6, m6⟩ := ki 6 (by omega)
  obtain ⟨t7, m7⟩ := ki 7 (by omega)
  obtain ⟨t8, m8⟩ := ki 8 (by omega)
  obtain ⟨t9, m9⟩ := ki 9 (by omega)
  obtain ⟨t10, m10⟩ := ki 10 (by omega)
  obtain ⟨t11, m11⟩ := ki 11 (by omega)
  obtain ⟨t12, m12⟩ := ki 12 (by omega)
  obtain ⟨t13, m13⟩ := ki 13 (by omega)
  obtain ⟨t14, m14⟩ := ki 14 (by omega)
  obtain ⟨t15, m15⟩ := ki 15 (by omega)
  obtain ⟨t16, m16⟩ := ki 16 (by omega)
  refine ⟨?_, ?_, ⟨ps, tv, cnt, cur, beh, ?_⟩, ⟨sp, pn, ?_⟩, ⟨st, oc, sq, M, pm, ?_⟩, ?_, ⟨pile, ?_⟩, ⟨j, ?_⟩, ⟨S, d, ?_⟩, h10, h11⟩
  · unfold XP at h1 ⊢
    rw [t0, m0]
    exact h1
  · unfold TP at h2 ⊢
    rw [t1, m1, t2, m2]
    exact h2
  · unfold TK at h3 ⊢
    rw [t3, m3, t4, m4, t5, m5]
    exact h3
  · unfold PL at h4 ⊢
    rw [t6, m6, t7, m7]
    exact h4
  · unfold PL at h5 ⊢
    rw [t8, m8, t9, m9]
    exact h5
  · unfold XGr at h6 ⊢
    rw [t10, m10]
    exact h6
  · unfold WS at h7 ⊢
    rw [t11, m11, t12, m12]
    exact h7
  · unfold CV AR VC at h8 ⊢
    rw [t13, m13, t14, m14]
    obtain ⟨g1, g2, g3, g4, g5, g6, g7, g8, g9, g10, g11', g11⟩ := h8
    refine ⟨g1, g2, g3, g4, g5, g6, g7, g8, g9, g10, g11', fun b hb hb' => ?_⟩
    obtain ⟨⟨x1, x2⟩, -⟩ := kn b hb hb'
    unfold NF at g11 ⊢
    rw [x1, x2]
    exact g11 b hb hb'
  · unfold CV AR VC at h9 ⊢
    rw [t15, m15, t16, m16]
    obtain ⟨g1, g2, g3, g4, g5, g6, g7, g8, g9, g10, g11', g11⟩ := h9
    refine ⟨g1, g2, g3, g4, g5, g6, g7, g8, g9, g10, g11', fun b hb hb' => ?_⟩
    obtain ⟨-, x1, x2⟩ := kn b hb hb'
    unfold NF at g11 ⊢
    rw [x1, x2]
    exact g11 b hb hb'
theorem XI.nw {E : MEnv} {τ τ' : MTau} {μ μ' : MMu} {C : XC} {A : XA} (h : XI τ μ C A) (hN : NW E τ μ τ' μ') : XI τ' μ' C A := h.keepC (fun z hz => ⟨hN.1.1 z (h.cell hz), hN.2 z (h.cell hz)⟩)
