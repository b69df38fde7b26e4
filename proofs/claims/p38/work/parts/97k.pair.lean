/-! the object and the valley by hand beside each other -/
theorem cty_no : ∀ i, i < 17 → cty i ≠ .inl 9 ∧ cty i ≠ .inr (0, 32) ∧ cty i ≠ .inr (0, 5) ∧ cty i ≠ .inr (7, 64) ∧ cty i ≠ .inl 8 ∧ cty i ≠ .inl 10 ∧ ∀ n, cty i ≠ .inr (8, n) := by
  intro i hi
  have : i = 0 ∨ i = 1 ∨ i = 2 ∨ i = 3 ∨ i = 4 ∨ i = 5 ∨ i = 6 ∨ i = 7 ∨ i = 8 ∨ i = 9 ∨ i = 10 ∨ i = 11 ∨ i = 12 ∨ i = 13 ∨ i = 14 ∨ i = 15 ∨ i = 16 := by omega
  rcases this with rfl | rfl | rfl | rfl | rfl | rfl | rfl | rfl | rfl | rfl | rfl | rfl | rfl | rfl | rfl | rfl | rfl <;> simp [cty]
/-- what the valley by hand does leaves the object alone -/
theorem XI.sfr {τ : MTau} {μ μ0 μ' : MMu} {C : XC} {A : XA} {o N : Nat} {S : SC} {V : Val} {pu days : Int32} (h : XI τ μ C A) (hM : SM τ μ0 o S N V pu days) (hF : SFr μ μ' o S N) : XI τ μ' C A := by
  obtain ⟨t0, -, -, -, -, -, -, tb, ta, hr, -, -, -⟩ := hM
  refine h.keepC (fun z hz => ⟨rfl, hF z (fun e => ?_) (fun e => ?_) (fun b h1 hb he e => ?_)⟩)
  · rw [e] at hz
    exact h.nx t0 (fun i hi => (cty_no i hi).1.symm) (by simp) hz
  · rw [e] at hz
    exact h.nx tb (fun i hi => (cty_no i hi).2.1.symm) (by simp) hz
  · rw [e] at hz
    exact h.nx (hr b h1 hb he).2.1 (fun i hi => (cty_no i hi).2.2.1.symm) (by simp) hz
/-- what the object does leaves the valley by hand alone -/
theorem SM.xfr {τ : MTau} {μ μ0 μ' : MMu} {C : XC} {A : XA} {o N : Nat} {S : SC} {V : Val} {pu days : Int32} (h : SM τ μ o S N V pu days) (hX : XI τ μ0 C A) (hF : XFr μ μ' C) : SM τ μ' o S N V pu days := by
  obtain ⟨t0, f0, f1, f2, f3, f4, f5, tb, ta, hr, hz, hl, hj⟩ := h
  have e0 := hF o (hX.nx t0 (fun i hi => (cty_no i hi).1.symm) (by simp))
  have e1 := hF S.2.1 (hX.nx tb (fun i hi => (cty_no i hi).2.1.symm) (by simp))
  have e2 := hF S.2.2.1 (hX.nx ta (fun i hi => (cty_no i hi).2.2.2.1.symm) (by simp))
  refine ⟨t0, by rw [e0]; exact f0, by rw [e0]; exact f1, by rw [e0]; exact f2, by rw [e0]; exact f3, by rw [e0]; exact f4, by rw [e0]; exact f5, tb, ta, fun b h1 hb he => ?_, fun b hb he => by rw [e2]; exact hz b hb he, fun b h1 hb he hi => by rw [e1]; exact hl b h1 hb he hi, hj⟩
  obtain ⟨r0, r1, r2⟩ := hr b h1 hb he
  have e3 := hF (S.2.2.2 b) (hX.nx r1 (fun i hi => (cty_no i hi).2.2.1.symm) (by simp))
  refine ⟨by rw [e2]; exact r0, ?_⟩
  unfold SMR
  rw [e3]
  exact ⟨r1, r2⟩
theorem ODS.xfr {τ : MTau} {μ μ0 μ' : MMu} {C : XC} {A : XA} {od : Nat} {xs : List Int32} (h : ODS τ μ od xs) (hX : XI τ μ0 C A) (hF : XFr μ μ' C) : ODS τ μ' od xs := h.keep (fun z hz => ⟨rfl, fun j => by
  have : μ' z = μ z := by
    refine hF z ?_
    rcases hz with e | e | ⟨n, e⟩
    · exact hX.nx e (fun i hi => (cty_no i hi).2.2.2.2.1.symm) (by simp)
    · exact hX.nx e (fun i hi => (cty_no i hi).2.2.2.2.2.1.symm) (by simp)
    · exact hX.nx e (fun i hi => ((cty_no i hi).2.2.2.2.2.2 n).symm) (by simp)
  rw [this]⟩)
/-- both stand alike -/
def PAR (τ : MTau) (μ : MMu) (C : XC) (A : XA) (o : Nat) (S : SC) (K : Nat) (xs : List Int32) : Prop := XI τ μ C A ∧ SM τ μ o S A.2.1.1 A.2.2.1.1 A.2.2.1.2.1 A.2.2.1.2.2 ∧ SOK A.2.1.1 K A.2.2.1.1 ∧ ODS τ μ S.1 xs ∧ A.2.1.2.length = xs.length ∧ ∀ (k : Nat) (ln : LN) (x : Int32), A.2.1.2[k]? = some ln → xs[k]? = some x → LNX ln x
