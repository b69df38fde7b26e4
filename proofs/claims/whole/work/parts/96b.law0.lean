/-! the law: both objects beside each other -/
theorem CV.ext {E : MEnv} {τ τ' : MTau} {μ : MMu} {v ar : Nat} {nd : Nat → Nat} {N : Nat} {S : GS} {days : Int32} (h : CV τ μ v ar nd N S days) (hT : TX E τ τ') : CV τ' μ v ar nd N S days := by
  obtain ⟨h1, g0, g1, g2, g3, g4, g5, g6, g7, g8, ⟨a1, a2, a3⟩, hv⟩ := h
  exact ⟨hT.some h1, g0, g1, g2, g3, g4, g5, g6, g7, g8, ⟨hT.some a1, a2, a3⟩, fun b hb hb' => ⟨hT.some (hv b hb hb').1, (hv b hb hb').2⟩⟩
theorem XI.ext {E : MEnv} {τ τ' : MTau} {μ μ' : MMu} {C : XC} {A : XA} (h : XI τ μ C A) (hT : TX E τ τ') (e : ∀ z, XCell C z → μ' z = μ z) : XI τ' μ' C A := by
  have c : ∀ i, i < 17 → μ' (C.1 i) = μ (C.1 i) := fun i hi => e _ (Or.inl ⟨i, hi, rfl⟩)
  have n1 : ∀ b, 1 ≤ b → b < 64 → μ' (C.2.1 b) = μ (C.2.1 b) := fun b hb hb' => e _ (Or.inr ⟨b, hb, hb', Or.inl rfl⟩)
  have n2 : ∀ b, 1 ≤ b → b < 64 → μ' (C.2.2 b) = μ (C.2.2 b) := fun b hb hb' => e _ (Or.inr ⟨b, hb, hb', Or.inr rfl⟩)
  obtain ⟨h1, h2, ⟨ps, tv, cnt, cur, beh, h3⟩, ⟨sp, pn, h4⟩, ⟨st, oc, sp', M, pn', h5⟩, h6, ⟨pile, h7⟩, ⟨j, h8⟩, ⟨S, dd, h9⟩, h10, h11⟩ := h
  have q1 := h1.same (μ' := μ') (c 0 (by omega))
  have q6 := h6.same (μ' := μ') (c 10 (by omega))
  exact ⟨⟨hT.some q1.1, q1.2⟩, h2.ext hT (c 1 (by omega)) (c 2 (by omega)), ⟨ps, tv, cnt, cur, beh, h3.ext hT (c 3 (by omega)) (c 4 (by omega)) (c 5 (by omega))⟩, ⟨sp, pn, h4.ext hT (c 6 (by omega)) (c 7 (by omega))⟩, ⟨st, oc, sp', M, pn', h5.ext hT (c 8 (by omega)) (c 9 (by omega))⟩, ⟨hT.some q6.1, q6.2⟩, ⟨pile, h7.ext hT (c 11 (by omega)) (c 12 (by omega))⟩, ⟨j, (h8.same (μ' := μ') (c 13 (by omega)) (c 14 (by omega)) n1).ext hT⟩, ⟨S, dd, (h9.same (μ' := μ') (c 15 (by omega)) (c 16 (by omega)) n2).ext hT⟩, h10, h11⟩
/-- both objects stand for one thing; their cells are apart -/
def LM (τ : MTau) (μ : MMu) (C : XC) (R : Nat → Nat) (o : Nat) (A : XA) : Prop := XI τ μ C A ∧ RI τ μ R A ∧ τ o = some (.inr (1, 1)) ∧ ∀ i, i < 29 → ¬ XCell C (R i)
theorem cty_o : ∀ i, cty i ≠ .inr (1, 1) := fun i => by
  unfold cty
  split <;> simp
theorem rcy_o : ∀ i, rcy i ≠ .inr (1, 1) := fun i => by
  unfold rcy
  split <;> simp
theorem LM.ox {τ : MTau} {μ : MMu} {C : XC} {R : Nat → Nat} {o : Nat} {A : XA} (h : LM τ μ C R o A) : ¬ XCell C o := by
  intro hc
  rcases hc with ⟨i, hi, e⟩ | ⟨b, hb, hb', e⟩
  · have q := h.1.ty i hi
    rw [← e, h.2.2.1] at q
    exact cty_o i (Option.some.inj q).symm
  · have q := h.1.tyn b hb hb'
    rcases e with e | e
    · rw [← e, h.2.2.1] at q
      exact absurd q.1 (by simp)
    · rw [← e, h.2.2.1] at q
      exact absurd q.2 (by simp)
theorem LM.or {τ : MTau} {μ : MMu} {C : XC} {R : Nat → Nat} {o : Nat} {A : XA} (h : LM τ μ C R o A) : ∀ i, i < 29 → o ≠ R i := fun i hi e => by
  have q := h.2.1.ty i hi
  rw [← e, h.2.2.1] at q
  exact rcy_o i (Option.some.inj q).symm
theorem RI.fx {τ : MTau} {μ μ' : MMu} {R : Nat → Nat} {A : XA} (h : RI τ μ R A) (e : ∀ i, i < 29 → μ' (R i) = μ (R i)) : RI τ μ' R A := h.same (fun k _ => by rw [e 0 (by omega)]) (fun i _ hi _ => e i hi)
/-- behind a call of the class, and what it answered laid into the row -/
theorem LM.xo {E : MEnv} {τ : MTau} {μ μ1 : MMu} {C : XC} {R : Nat → Nat} {o : Nat} {A A' : XA} (h : LM τ μ C R o A) (hx : XI τ μ1 C A') (hf : XFr μ μ1 C) (V : Value) : XI τ (mset μ1 o 0 V) C A' ∧ RI τ (mset μ1 o 0 V) R A ∧ mset μ1 o 0 V o 0 = V := by
  refine ⟨hx.ext (E := E) TX.rfl' (fun z hz => mset_ne (fun e => h.ox (by rw [← e]; exact hz))), h.2.1.fx (fun i hi => ?_), by simp [mset]⟩
  rw [mset_ne (h.or i hi).symm]
  exact hf _ (h.2.2.2 i hi)
theorem LM.x {τ : MTau} {μ μ1 : MMu} {C : XC} {R : Nat → Nat} {o : Nat} {A : XA} (h : LM τ μ C R o A) (hf : XFr μ μ1 C) : RI τ μ1 R A := h.2.1.fx (fun i hi => hf _ (h.2.2.2 i hi))
/-- behind a call of the reference -/
theorem LM.rt {E : MEnv} {τ τ' : MTau} {μ μ2 μ3 : MMu} {C : XC} {R R' : Nat → Nat} {o : Nat} {A A' : XA} (h : LM τ μ C R o A) (hx : XI τ μ2 C A') (hT : TX E τ τ') (hr : RI τ' μ3 R' A') (hc : ∀ i, i < 29 → (∃ j, j < 29 ∧ R' i = R j) ∨ τ (R' i) = none) (hf : ∀ z, τ z ≠ none → (∀ i, i < 29 → z ≠ R i) → μ3 z = μ2 z) : LM τ' μ3 C R' o A' ∧ μ3 o = μ2 o := by
  have hxc : ∀ z, XCell C z → τ z ≠ none := fun z hz => h.1.cell hz
  refine ⟨⟨hx.ext hT (fun z hz => hf z (hxc z hz) (fun i hi e => h.2.2.2 i hi (by rw [← e]; exact hz))), hr, hT.some h.2.2.1, fun i hi hz => ?_⟩, hf o (by rw [h.2.2.1]; simp) h.or⟩
  rcases hc i hi with ⟨j, hj, e⟩ | e
  · rw [e] at hz
    exact h.2.2.2 j hj hz
  · exact hxc _ hz e
theorem LM.r {E : MEnv} {τ : MTau} {μ μ2 μ3 : MMu} {C : XC} {R : Nat → Nat} {o : Nat} {A A' : XA} {k : Int32} (h : LM τ μ C R o A) (hx : XI τ μ2 C A') (hr : RLv τ μ2 μ3 R A' k) : LM τ μ3 C R o A' ∧ μ3 o = μ2 o := h.rt (E := E) hx TX.rfl' hr.1 (fun i hi => Or.inl ⟨i, hi, rfl⟩) (fun z _ hz => hr.2.1 z hz)
/-- a call of the law's script: six numbers -/
def SC (E : MEnv) (τ : MTau) (b k : Nat) (p : Nat → Int32) : Prop := τ b = none ∧ ∃ L f, E.2.1 b = some (0, L, f) ∧ ∀ j, j < 6 → vp_in (nI k + nI j) L ∧ f (nI k + nI j).toNatClampNeg = .int (p j)
theorem lgc_self {x : Int64} : lg_cmp x x = 0 := by
  unfold lg_cmp
  rw [if_neg (by show ¬ x < x; rw [Int64.lt_iff_toInt_lt]; omega), if_pos rfl]
theorem oBr_n {N : Nat} {br : Int32} {g : Nat → Value} (h : brO N br = none) : oBr N br g = .inr (excN 2) := by simp only [oBr, h]
theorem oBr_s {N b : Nat} {br : Int32} {g : Nat → Value} (h : brO N br = some b) : oBr N br g = .inl (some (g b)) := by simp only [oBr, h]
theorem oIf_t {b : Bool} {e : Nat} {v : Value} (h : b = true) : oIf b e v = .inl (some v) := if_pos h
theorem oIf_f {b : Bool} {e : Nat} {v : Value} (h : b = false) : oIf b e v = .inr (excN e) := if_neg (by rw [h]; decide)
theorem nI_ij {a b : Nat} (ha : a < 100000) (hb : b < 100000) (h : nI a = nI b) : a = b := by
  have e1 : (nI a).toInt = a := Int32.toInt_ofNat_of_lt (by omega)
  have e2 : (nI b).toInt = b := Int32.toInt_ofNat_of_lt (by omega)
  rw [h] at e1
  omega
theorem br_eq {N : Nat} (h2 : 2 ≤ N) : nI (2 * N - 1) = 2 * nI N - 1 := by
  rw [nI_dbl]
  exact (nI_sub (a := 1) (b := 2 * N) (by omega)).symm
theorem GB_teA {A : XA} {K : Nat} (hm : XM (teA A)) (h : GB A.2.1.1 A.2.2.1.1 6 K 1) : GB (teA A).2.1.1 (teA A).2.2.1.1 6 K 1 := by
  cases hE : (teE A.1.2 A.1.1).2.2 with
  | none =>
    have e : teA A = ((0, A.1.2), A.2.1, A.2.2.1, (teE A.1.2 A.1.1).2.1) := by simp only [teA, hE]
    rw [e]
    exact h
  | some q =>
    obtain ⟨N, l⟩ := q
    have e : teA A = ((0, A.1.2), (N, l), (zV, 0, 0), -1) := by simp only [teA, hE]
    rw [e] at hm ⊢
    exact GB_mono (Nat.zero_le _) (GB_zero hm.1 hm.2.1)
