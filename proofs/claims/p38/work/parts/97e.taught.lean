/-! the law's text fed -/
theorem XI.st5 {τ : MTau} {μ : MMu} {C : XC} {A : XA} {f k : Nat} {v : Value} (h : XI τ μ C A) (hf : τ f = some (.inr (0, 5))) : XI τ (mset μ f k v) C A := h.keepC (fun z hz => ⟨rfl, mset_ne (fun e => by
  rcases hz with ⟨i, hi, rfl⟩ | ⟨b, hb, hb', rfl | rfl⟩
  · have t := h.ty i hi
    rw [e, hf] at t
    have : i = 0 ∨ i = 1 ∨ i = 2 ∨ i = 3 ∨ i = 4 ∨ i = 5 ∨ i = 6 ∨ i = 7 ∨ i = 8 ∨ i = 9 ∨ i = 10 ∨ i = 11 ∨ i = 12 ∨ i = 13 ∨ i = 14 ∨ i = 15 ∨ i = 16 := by omega
    rcases this with rfl | rfl | rfl | rfl | rfl | rfl | rfl | rfl | rfl | rfl | rfl | rfl | rfl | rfl | rfl | rfl | rfl <;> simp [cty] at t
  · have t := (h.tyn b hb hb').1
    rw [e, hf] at t
    cases t
  · have t := (h.tyn b hb hb').2
    rw [e, hf] at t
    cases t)⟩)
theorem XI.nx {τ : MTau} {μ : MMu} {C : XC} {A : XA} {z : Nat} {x : Nat ⊕ (Nat × Nat)} (h : XI τ μ C A) (hz : τ z = some x) (hx : ∀ i, i < 17 → x ≠ cty i) (h0 : x ≠ .inl 0) : ¬ XCell C z := by
  rintro (⟨i, hi, rfl⟩ | ⟨b, hb, hb', rfl | rfl⟩)
  · have t := h.ty i hi
    rw [hz] at t
    injection t with t
    exact hx i hi t
  · have t := (h.tyn b hb hb').1
    rw [hz] at t
    injection t with t
    exact h0 t
  · have t := (h.tyn b hb hb').2
    rw [hz] at t
    injection t with t
    exact h0 t
def pk4 (f : Nat → Nat) : Nat → Int32
  | 0 => 0
  | t + 1 => (pk4 f t <<< (8 : Int32)) ||| nI (f t)
theorem pk4_v {f : Nat → Nat} (hf : ∀ t, f t < 256) : (pk4 f 4).toBitVec.toNat = ((f 0 * 256 + f 1) * 256 + f 2) * 256 + f 3 := by
  have h0 : (pk4 f 0).toBitVec.toNat = 0 := rfl
  have a0 := hf 0
  have a1 := hf 1
  have a2 := hf 2
  have a3 := hf 3
  have h1 : (pk4 f 1).toBitVec.toNat = f 0 := by
    have := shl_or (x := pk4 f 0) (b := f 0) (by rw [h0]; omega) (hf 0)
    rw [h0] at this
    simpa [pk4] using this
  have h2 : (pk4 f 2).toBitVec.toNat = f 0 * 256 + f 1 := by
    have := shl_or (x := pk4 f 1) (b := f 1) (by rw [h1]; omega) (hf 1)
    rw [h1] at this
    exact this
  have h3 : (pk4 f 3).toBitVec.toNat = (f 0 * 256 + f 1) * 256 + f 2 := by
    have := shl_or (x := pk4 f 2) (b := f 2) (by rw [h2]; omega) (hf 2)
    rw [h2] at this
    exact this
  have := shl_or (x := pk4 f 3) (b := f 3) (by rw [h3]; omega) (hf 3)
  rw [h3] at this
  exact this
def padW (w : List Nat) (i : Nat) : Nat := w.getD i 32
theorem b4_4 {f : Nat → Nat} (hf : ∀ t, f t < 256) {k : Nat} (hk : k < 4) : b4 (pk4 f 4) k = f k := by
  obtain ⟨h0, h1, h2, h3⟩ := b4_pk (hf 0) (hf 1) (hf 2) (hf 3) (pk4_v hf)
  have : k = 0 ∨ k = 1 ∨ k = 2 ∨ k = 3 := by omega
  rcases this with rfl | rfl | rfl | rfl
  · exact h0
  · exact h1
  · exact h2
  · exact h3
theorem fdB_pad {g : Nat → Nat} {B : Nat → Nat} {j : Nat} (hg : ∀ t, g t < 256) (hB : ∀ i, i < 20 * j → B i = g i) : ∀ i, i < 20 * (j + 1) → fdB (20 * j) (pk4 (fun t => g (20 * j + 4 * 0 + t)) 4) (pk4 (fun t => g (20 * j + 4 * 1 + t)) 4) (pk4 (fun t => g (20 * j + 4 * 2 + t)) 4) (pk4 (fun t => g (20 * j + 4 * 3 + t)) 4) (pk4 (fun t => g (20 * j + 4 * 4 + t)) 4) B i = g i := by
  intro i hi
  have K : ∀ (k : Nat), 20 * j + 4 * k ≤ i → i < 20 * j + 4 * k + 4 → b4 (pk4 (fun t => g (20 * j + 4 * k + t)) 4) (i - (20 * j + 4 * k)) = g i := fun k h1 h2 => by
    rw [b4_4 (fun t => hg _) (by omega)]
    show g (20 * j + 4 * k + (i - (20 * j + 4 * k))) = g i
    rw [show 20 * j + 4 * k + (i - (20 * j + 4 * k)) = i by omega]
  unfold fdB apB apJ
  by_cases h4 : 20 * j + 16 ≤ i
  · rw [if_pos ⟨h4, by omega⟩]
    exact K 4 (by omega) (by omega)
  · rw [if_neg (by omega)]
    by_cases h3 : 20 * j + 12 ≤ i
    · rw [if_pos ⟨h3, by omega⟩]
      exact K 3 (by omega) (by omega)
    · rw [if_neg (by omega)]
      by_cases h2 : 20 * j + 8 ≤ i
      · rw [if_pos ⟨h2, by omega⟩]
        exact K 2 (by omega) (by omega)
      · rw [if_neg (by omega)]
        by_cases h1 : 20 * j + 4 ≤ i
        · rw [if_pos ⟨h1, by omega⟩]
          exact K 1 (by omega) (by omega)
        · rw [if_neg (by omega)]
          by_cases h0 : 20 * j ≤ i
          · rw [if_pos ⟨h0, by omega⟩]
            exact K 0 (by omega) (by omega)
          · rw [if_neg (by omega)]
            exact hB i (by omega)
