/-! the valley by hand: days -/
def wdN (x : Int32) : Nat := if blw x 5 < 2 then 0 else if blw x 5 < 4 then 1 else 2
def wdO (x : Int32) : Int32 := if blw x 5 < 2 then -13 else if blw x 5 < 4 then -14 else -15
theorem wd_ok (x : Int32) : owd (nI (wdN x)) (wdO x) := by
  unfold wdN wdO
  by_cases h : blw x 5 < 2
  · rw [if_pos h, if_pos h]
    exact Or.inl ⟨rfl, rfl⟩
  · rw [if_neg h, if_neg h]
    by_cases h : blw x 5 < 4
    · rw [if_pos h, if_pos h]
      exact Or.inr (Or.inl ⟨rfl, rfl⟩)
    · rw [if_neg h, if_neg h]
      exact Or.inr (Or.inr ⟨rfl, rfl⟩)
/-- an order in the heap, made of a number -/
def OD (τ : MTau) (μ : MMu) (oo : Nat) (x : Int32) : Prop := τ oo = some (.inl 8) ∧ μ oo 0 = .int (nI (wdN x)) ∧ (∃ a, μ oo 1 = .ref a ∧ GT τ μ 3 false (x >>> 3) 1 a) ∧ (∃ a, μ oo 2 = .ref a ∧ GT τ μ 3 false (x >>> 4) 2 a) ∧ (∃ a, μ oo 3 = .ref a ∧ GT τ μ 3 false (x >>> 6) (blw (x >>> 5) 2 + 1) a) ∧ (blw (x >>> 7) 2 = 0 → μ oo 4 = .null) ∧ (¬ blw (x >>> 7) 2 = 0 → ∃ a, μ oo 4 = .ref a ∧ GT τ μ 3 true (x >>> 2) 1 a)
def ODS (τ : MTau) (μ : MMu) (od : Nat) (xs : List Int32) : Prop := τ od = some (.inr (8, xs.length)) ∧ xs.length ≤ 4 ∧ ∀ k x, xs[k]? = some x → ∃ oo, μ od k = .ref oo ∧ OD τ μ oo x
theorem OD.keep {τ τ' : MTau} {μ μ' : MMu} (hT : ∀ z, τ z = some (.inl 8) ∨ τ z = some (.inl 10) → τ' z = τ z ∧ ∀ j, μ' z j = μ z j) {oo : Nat} {x : Int32} (h : OD τ μ oo x) : OD τ' μ' oo x := by
  obtain ⟨t, h0, ⟨a, a1, a2⟩, ⟨b, b1, b2⟩, ⟨c, c1, c2⟩, h4, h5⟩ := h
  obtain ⟨e1, e2⟩ := hT oo (Or.inl t)
  have hG : ∀ z, τ z = some (.inl 10) → τ' z = some (.inl 10) ∧ ∀ j, μ' z j = μ z j := fun z hz => by
    obtain ⟨e1, e2⟩ := hT z (Or.inr hz)
    exact ⟨e1.trans hz, e2⟩
  refine ⟨e1.trans t, by rw [e2]; exact h0, ⟨a, by rw [e2]; exact a1, GT.keep hG _ _ _ _ _ a2⟩, ⟨b, by rw [e2]; exact b1, GT.keep hG _ _ _ _ _ b2⟩, ⟨c, by rw [e2]; exact c1, GT.keep hG _ _ _ _ _ c2⟩, fun z => by rw [e2]; exact h4 z, fun z => ?_⟩
  obtain ⟨t, t1, t2⟩ := h5 z
  exact ⟨t, by rw [e2]; exact t1, GT.keep hG _ _ _ _ _ t2⟩
theorem ODS.keep {τ τ' : MTau} {μ μ' : MMu} {od : Nat} {xs : List Int32} (hT : ∀ z, τ z = some (.inl 8) ∨ τ z = some (.inl 10) ∨ (∃ n, τ z = some (.inr (8, n))) → τ' z = τ z ∧ ∀ j, μ' z j = μ z j) (h : ODS τ μ od xs) : ODS τ' μ' od xs := by
  obtain ⟨t, hl, hk⟩ := h
  obtain ⟨e1, e2⟩ := hT od (Or.inr (Or.inr ⟨_, t⟩))
  refine ⟨e1.trans t, hl, fun k x hx => ?_⟩
  obtain ⟨oo, o1, o2⟩ := hk k x hx
  exact ⟨oo, by rw [e2]; exact o1, o2.keep (fun z hz => hT z (hz.elim Or.inl (fun w => Or.inr (Or.inl w))))⟩
theorem SM.ods {τ : MTau} {μ0 μ μ' : MMu} {o N : Nat} {C : SC} {V : Val} {pu days : Int32} {xs : List Int32} {od : Nat} (h : SM τ μ0 o C N V pu days) (hF : SFr μ μ' o C N) (hD : ODS τ μ od xs) : ODS τ μ' od xs := by
  obtain ⟨t0, -, -, -, -, -, -, tb, ta, hr, -, -, -⟩ := h
  refine hD.keep (fun z hz => ⟨rfl, fun j => ?_⟩)
  have : μ' z = μ z := by
    refine hF z (fun e => ?_) (fun e => ?_) (fun b h1 hb he e => ?_)
    · rw [e, t0] at hz
      rcases hz with w | w | ⟨n, w⟩ <;> cases w
    · rw [e, tb] at hz
      rcases hz with w | w | ⟨n, w⟩ <;> cases w
    · rw [e, (hr b h1 hb he).2.1] at hz
      rcases hz with w | w | ⟨n, w⟩ <;> cases w
  rw [this]
/-- an order as a line that is read -/
def LNX (ln : LN) (x : Int32) : Prop := ln.2.1 = wdO x ∧ (∀ r : RC, evL r (lnA ln) = if wdO x = -15 then 0 else tval r 3 false (x >>> 3) 1) ∧ (∀ r : RC, evL r ln.2.2.2.1 = tval r 3 false (x >>> 4) 2) ∧ (∀ r : RC, evL r ln.2.2.2.2.1 = tval r 3 false (x >>> 6) (blw (x >>> 5) 2 + 1)) ∧ (∀ r : RC, evL r (lnW ln) = if blw (x >>> 7) 2 = 0 then 1 else tval r 3 true (x >>> 2) 1)
theorem SOK.ln {N K : Nat} {S : GS} {days : Int32} {ln : LN} (h : SOK N K S.1) (h2 : 2 ≤ N) (h32 : N ≤ 32) (hK : K + 999 < 900000000) : SOK N (K + 999) (lnE N days S ln).1 :=
  ⟨CB_ord h2 h32 (by omega) h.1, GB_ord h2 h32 (by omega) h.2.1, VI_ord h2 h32 h.2.2.1, hK⟩
theorem SM.dy {τ : MTau} {μ : MMu} {o N : Nat} {C : SC} {V : Val} {pu days p : Int32} (h : SM τ μ o C N V pu days) : SM τ (mset μ o 1 (.int p)) o C N V pu p ∧ SFr μ (mset μ o 1 (.int p)) o C N := by
  obtain ⟨t0, f0, f1, f2, f3, f4, f5, tb, ta, hr, hz, hl, hj⟩ := id h
  have n5 : C.2.1 ≠ o := fun e => by rw [e, t0] at tb; cases tb
  have n6 : C.2.2.1 ≠ o := fun e => by rw [e, t0] at ta; cases ta
  refine ⟨⟨t0, by simp [mset, f0], by simp [mset], by simp [mset, f2], by simp [mset, f3], by simp [mset, f4], by simp [mset, f5], tb, ta, fun b h1 hb he => ?_, fun b hb he => by rw [mset_ne n6]; exact hz b hb he, fun b h1 hb he hi => by rw [mset_ne n5]; exact hl b h1 hb he hi, hj⟩, fun z hz _ _ => mset_ne hz⟩
  have n1 : C.2.2.2 b ≠ o := fun e => (h.ne h1 hb he).1 e.symm
  rw [mset_ne n6]
  refine ⟨(hr b h1 hb he).1, ?_⟩
  unfold SMR
  rw [mset_ne n1]
  exact (hr b h1 hb he).2
theorem SM.v {τ : MTau} {μ : MMu} {o N : Nat} {C : SC} {V V' : Val} {pu pu' days days' : Int32} (h : SM τ μ o C N V pu days) (e1 : V' = V) (e2 : pu' = pu) (e3 : days' = days) : SM τ μ o C N V' pu' days' := by
  rw [e1, e2, e3]
  exact h
