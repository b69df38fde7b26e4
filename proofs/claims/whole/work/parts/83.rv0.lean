/-! the reference: what lies at no branch stays -/
def V0 (V : Val) : Prop := V 0 = zV 0
theorem V0_op {N b : Nat} {V : Val} (h : V0 V) (hb : 1 ≤ b) : V0 (opV N b V) := by
  unfold V0 opV
  rw [if_neg (by omega), if_neg (by omega)]
  exact h
theorem V0_te {b : Nat} {V : Val} (h : V0 V) (hb : 1 ≤ b) : V0 (teV b V) := by
  unfold V0 teV
  rw [if_neg (by omega)]
  exact h
theorem V0_rc {N b : Nat} {V : Val} {o x : Int32} (h : V0 V) (hb : 1 ≤ b) : V0 (rcV N o x b V) := by
  unfold V0 rcV
  rw [if_neg (by omega)]
  exact h
theorem V0_opS {N b : Nat} {S : GS} (h : V0 S.1) (hb : 1 ≤ b) : V0 (opS N b S).1 := by
  unfold opS
  split
  · exact V0_op h hb
  · exact h
theorem V0_dn {N : Nat} {o x f t : Int32} : ∀ (k b : Nat) (S : GS), V0 S.1 → 1 ≤ b → V0 (dn N o x f t k b S).1
  | 0, b, S, h, _ => h
  | k + 1, b, S, h, hb => by
    rw [dn]
    split
    · exact V0_rc h hb
    · split
      · exact h
      · have h1 : V0 (opS N b S).1 := V0_opS h hb
        have hA : V0 (if tch N f t (2 * b) = true then dn N o x f t k (2 * b) (opS N b S) else opS N b S).1 := by
          split
          · exact V0_dn k _ _ h1 (by omega)
          · exact h1
        refine V0_te ?_ hb
        show V0 (if tch N f t (2 * b + 1) = true then dn N o x f t k (2 * b + 1) _ else _).1
        split
        · exact V0_dn k _ _ hA (by omega)
        · exact hA
theorem V0_go {N : Nat} {o x f t : Int32} {S : GS} (h : V0 S.1) : V0 (goS N o x f t S).1 := V0_dn 6 1 _ h (by omega)
theorem V0_ff {N : Nat} {t : Int32} : ∀ (k b : Nat) (S : GS), V0 S.1 → 1 ≤ b → V0 (ff N t k b S).2.1
  | 0, b, S, h, _ => h
  | k + 1, b, S, h, hb => by
    rw [ff]
    split
    · exact V0_ff k _ _ (V0_opS h hb) (by split <;> omega)
    · exact h
theorem V0_ffS {N : Nat} {t : Int32} {S : GS} (h : V0 S.1) : V0 (ffS N t S).2.1 := by
  unfold ffS
  split
  · exact h
  · exact V0_ff 6 1 S h (by omega)
theorem V0_oE {N : Nat} : ∀ (k : Nat) (S : GS), V0 S.1 → V0 (oE N k S).1
  | 0, S, h => h
  | k + 1, S, h => by
    rw [oE]
    split
    · rename_i hk
      simp only [Bool.and_eq_true, decide_eq_true_eq] at hk
      exact V0_opS (V0_oE k S h) hk.1
    · exact V0_oE k S h
theorem V0_ord {N : Nat} {o a f g w : Int32} {S : GS} (h : V0 S.1) : V0 (ordS N o a f g w S).1 := by
  unfold ordS
  split
  · exact h
  · exact V0_go h
theorem V0_lines {N : Nat} {days : Int32} : ∀ (l : List LN) (S : GS), V0 S.1 → V0 (l.foldl (lnE N days) S).1
  | [], S, h => h
  | ln :: l, S, h => V0_lines l _ (V0_ord h)
theorem V0_days {N : Nat} {l : List LN} : ∀ (k : Nat) (x : GS × Int32), V0 x.1.1 → V0 (daysS N l k x).1.1
  | 0, x, h => h
  | k + 1, x, h => V0_days k _ (V0_lines l x.1 h)
/-- the cells of a reference: itself, four rows of tokens, the plan and its rows, the tape, first and last, the pile, the state now and its rows, the state ahead and its rows -/
def rcy : Nat → Nat ⊕ (Nat × Nat)
  | 0 => .inl 10
  | 1 => .inr (0, 401)
  | 2 => .inr (0, 401)
  | 3 => .inr (0, 401)
  | 4 => .inr (1, 401)
  | 5 => .inl 8
  | 6 => .inr (0, 800)
  | 7 => .inr (0, 800)
  | 8 => .inr (0, 16)
  | 9 => .inr (0, 64)
  | 10 => .inr (0, 64)
  | 11 => .inr (0, 2000)
  | 12 => .inr (0, 64)
  | 13 => .inr (0, 64)
  | 14 => .inr (0, 800)
  | 15 => .inl 9
  | 16 => .inr (1, 64)
  | 20 => .inr (3, 64)
  | 22 => .inl 9
  | 23 => .inr (1, 64)
  | 27 => .inr (3, 64)
  | _ => .inr (0, 64)
def Cn (C : Nat → Nat) : RA := fun i => C (16 + i)
def Ca (C : Nat → Nat) : RA := fun i => C (23 + i)
def RIt (τ : MTau) (C : Nat → Nat) : Prop := (∀ i, i < 29 → τ (C i) = some (rcy i)) ∧ ∀ i j, i < 29 → j < 29 → i ≠ j → C i ≠ C j
def RIm (μ : MMu) (C : Nat → Nat) (len : Nat) (e : Int32) : Prop := μ (C 0) 1 = .ref (C 11) ∧ μ (C 0) 2 = .int (nI len) ∧ μ (C 0) 3 = .int e ∧ μ (C 0) 4 = .ref (C 5) ∧ μ (C 0) 5 = .ref (C 1) ∧ μ (C 0) 6 = .ref (C 2) ∧ μ (C 0) 7 = .ref (C 3) ∧ μ (C 0) 8 = .ref (C 4) ∧ μ (C 0) 12 = .ref (C 15) ∧ μ (C 0) 13 = .ref (C 22) ∧ μ (C 0) 14 = .ref (C 12) ∧ μ (C 0) 15 = .ref (C 13) ∧ μ (C 0) 20 = .ref (C 14)
def RIp (μ : MMu) (C : Nat → Nat) (N : Nat) (l : List LN) : Prop := (μ (C 5) 0 = .int (nI N) ∧ μ (C 5) 1 = .int (nI l.length) ∧ μ (C 5) 2 = .ref (C 8) ∧ μ (C 5) 3 = .ref (C 9) ∧ μ (C 5) 4 = .ref (C 10) ∧ μ (C 5) 5 = .ref (C 6) ∧ μ (C 5) 6 = .ref (C 7)) ∧ ∀ k ln, l[k]? = some ln → LCT μ (Dof C) k ln
def RIb (μ : MMu) (C : Nat → Nat) (len : Nat) (B : Nat → Nat) : Prop := len ≤ 2000 ∧ ∀ j, j < 2000 → B j < 256 ∧ μ (C 11) j = .int (nI (B j))
def RI (τ : MTau) (μ : MMu) (C : Nat → Nat) (A : XA) : Prop := RIt τ C ∧ RIm μ C A.1.1 A.2.2.2 ∧ RIp μ C A.2.1.1 A.2.1.2 ∧ RIb μ C A.1.1 A.1.2 ∧ MG τ μ (C 0) (C 12) (C 13) A.2.1.1 ∧ RS τ μ (C 15) (Cn C) A.2.2.1.1 A.2.2.1.2.1 A.2.2.1.2.2 ∧ (∃ V pu days, RS τ μ (C 22) (Ca C) V pu days) ∧ VS A.2.1.1 A.2.2.1.1 ∧ V0 A.2.2.1.1 ∧ XM A
def RFr (μ μ' : MMu) (C : Nat → Nat) : Prop := ∀ z, (∀ i, i < 29 → z ≠ C i) → μ' z = μ z
theorem RFr.rfl' {μ : MMu} {C : Nat → Nat} : RFr μ μ C := fun _ _ => rfl
theorem RFr.trans {μ μ' μ'' : MMu} {C : Nat → Nat} (h1 : RFr μ μ' C) (h2 : RFr μ' μ'' C) : RFr μ μ'' C := fun z a => (h2 z a).trans (h1 z a)
theorem RI.ty {τ : MTau} {μ : MMu} {C : Nat → Nat} {A : XA} (h : RI τ μ C A) (i : Nat) (hi : i < 29) : τ (C i) = some (rcy i) := h.1.1 i hi
theorem RI.inj {τ : MTau} {μ : MMu} {C : Nat → Nat} {A : XA} (h : RI τ μ C A) {i j : Nat} (hi : i < 29) (hj : j < 29) (hij : i ≠ j) : C i ≠ C j := h.1.2 i j hi hj hij
theorem six {P : Nat → Prop} (h0 : P 0) (h1 : P 1) (h2 : P 2) (h3 : P 3) (h4 : P 4) (h5 : P 5) : ∀ i, i < 6 → P i := fun i hi => by
  have : i = 0 ∨ i = 1 ∨ i = 2 ∨ i = 3 ∨ i = 4 ∨ i = 5 := by omega
  rcases this with rfl | rfl | rfl | rfl | rfl | rfl <;> assumption
theorem RIp.eq {μ μ' : MMu} {C : Nat → Nat} {N : Nat} {l : List LN} (h : RIp μ C N l) (e : ∀ i, 5 ≤ i → i < 11 → μ' (C i) = μ (C i)) : RIp μ' C N l := by
  obtain ⟨h1, h2⟩ := h
  refine ⟨by rw [e 5 (by omega) (by omega)]; exact h1, fun k ln hk => (h2 k ln hk).eq (fun i hi => ?_)⟩
  have : i = 0 ∨ i = 1 ∨ i = 2 ∨ i = 3 ∨ i = 4 := by omega
  rcases this with rfl | rfl | rfl | rfl | rfl
  · exact e 8 (by omega) (by omega)
  · exact e 9 (by omega) (by omega)
  · exact e 10 (by omega) (by omega)
  · exact e 6 (by omega) (by omega)
  · exact e 7 (by omega) (by omega)
/-- all stays but what no invariant speaks of -/
theorem RI.same {τ : MTau} {μ μ' : MMu} {C : Nat → Nat} {A : XA} (h : RI τ μ C A) (em : ∀ k, (1 ≤ k ∧ k < 9) ∨ (12 ≤ k ∧ k < 16) ∨ k = 20 → μ' (C 0) k = μ (C 0) k) (e : ∀ i, 5 ≤ i → i < 29 → i ≠ 14 → μ' (C i) = μ (C i)) : RI τ μ' C A := by
  obtain ⟨h1, ⟨a1, a2, a3, a4, a5, a6, a7, a8, a12, a13, a14, a15, a20⟩, h3, ⟨h4, h4'⟩, h5, h6, ⟨V, pu, days, h7⟩, h8⟩ := h
  refine ⟨h1, ⟨by rw [em 1 (by omega)]; exact a1, by rw [em 2 (by omega)]; exact a2, by rw [em 3 (by omega)]; exact a3, by rw [em 4 (by omega)]; exact a4, by rw [em 5 (by omega)]; exact a5, by rw [em 6 (by omega)]; exact a6, by rw [em 7 (by omega)]; exact a7, by rw [em 8 (by omega)]; exact a8, by rw [em 12 (by omega)]; exact a12, by rw [em 13 (by omega)]; exact a13, by rw [em 14 (by omega)]; exact a14, by rw [em 15 (by omega)]; exact a15, by rw [em 20 (by omega)]; exact a20⟩, h3.eq (fun i a b => e i a (by omega) (by omega)), ⟨h4, by rw [e 11 (by omega) (by omega) (by omega)]; exact h4'⟩, h5.same (em 14 (by omega)) (em 15 (by omega)) (e 12 (by omega) (by omega) (by omega)) (e 13 (by omega) (by omega) (by omega)), h6.same (e 15 (by omega) (by omega) (by omega)) (fun i hi => e (16 + i) (by omega) (by omega) (by omega)), ⟨V, pu, days, h7.same (e 22 (by omega) (by omega) (by omega)) (fun i hi => e (23 + i) (by omega) (by omega) (by omega))⟩, h8⟩
theorem RI.mset0 {τ : MTau} {μ : MMu} {C : Nat → Nat} {A : XA} (h : RI τ μ C A) {v : Value} : RI τ (mset μ (C 0) 0 v) C A ∧ RFr μ (mset μ (C 0) 0 v) C ∧ mset μ (C 0) 0 v (C 0) 0 = v := ⟨h.same (fun k hk => by simp only [mset]; rw [if_neg (by omega)]) (fun i a b _ => mset_ne (h.inj b (by omega) (by omega))), fun z hz => mset_ne (hz 0 (by omega)), by simp [mset]⟩
theorem RI.mn {τ : MTau} {μ : MMu} {C : Nat → Nat} {A : XA} (h : RI τ μ C A) : MN τ μ (C 0) (C 5) A.2.1.1 := ⟨h.ty 0 (by omega), h.2.1.2.2.2.1, h.ty 5 (by omega), h.2.2.1.1.1⟩
theorem RI.rp {τ : MTau} {μ : MMu} {C : Nat → Nat} {A : XA} (h : RI τ μ C A) : RPt τ μ (C 0) (C 5) (Dof C) A.2.1.1 A.2.1.2.length := by
  obtain ⟨p0, p1, p2, p3, p4, p5, p6⟩ := h.2.2.1.1
  exact ⟨h.ty 0 (by omega), h.2.1.2.2.2.1, h.ty 5 (by omega), p0, p1, ⟨p2, p3, p4, p5, p6⟩, h.ty 8 (by omega), h.ty 9 (by omega), h.ty 10 (by omega), h.ty 6 (by omega), h.ty 7 (by omega)⟩
theorem RI.ec {τ : MTau} {μ : MMu} {C : Nat → Nat} {A : XA} (h : RI τ μ C A) : EC τ μ (C 0) (C 12) (C 13) (C 15) (Cn C) (C 5) (Dof C) (C 14) A.2.1.1 A.2.1.2.length A.2.2.1.1 A.2.2.1.2.1 A.2.2.1.2.2 := ⟨h.2.2.2.2.1, h.2.2.2.2.2.1, h.rp, ⟨h.2.1.2.2.2.2.2.2.2.2.2.2.2.2, h.ty 14 (by omega), h.inj (by omega) (by omega) (by omega), h.inj (by omega) (by omega) (by omega)⟩, h.2.2.2.2.2.2.2.1, h.2.2.2.2.2.2.2.2.2.2.2.2.2, fun i hi => ⟨h.inj (by omega) (by omega) (by omega), h.inj (by omega) (by omega) (by omega)⟩, h.2.2.2.2.2.2.2.2.2.1, h.2.2.2.2.2.2.2.2.2.2.1⟩
theorem RI.da {τ : MTau} {μ : MMu} {C : Nat → Nat} {A : XA} (h : RI τ μ C A) : DA (Dof C) (Cn C) ∧ DA (Dof C) (Ca C) := ⟨fun i hi => ⟨h.inj (by omega) (by omega) (by omega), h.inj (by omega) (by omega) (by omega)⟩, fun i hi => ⟨h.inj (by omega) (by omega) (by omega), h.inj (by omega) (by omega) (by omega)⟩⟩
theorem RI.ff {τ : MTau} {μ : MMu} {C : Nat → Nat} {A : XA} (h : RI τ μ C A) : (∀ i, i < 6 → C 12 ≠ Cn C i ∧ C 13 ≠ Cn C i) ∧ (∀ i, i < 6 → C 12 ≠ Ca C i ∧ C 13 ≠ Ca C i) := ⟨fun i hi => ⟨h.inj (by omega) (by omega) (by omega), h.inj (by omega) (by omega) (by omega)⟩, fun i hi => ⟨h.inj (by omega) (by omega) (by omega), h.inj (by omega) (by omega) (by omega)⟩⟩
theorem EO.cn {τ : MTau} {μ μ' : MMu} {C : Nat → Nat} {A : XA} (h : RI τ μ C A) (ho : EO μ μ' (C 0) (C 15) (Cn C) (C 14)) : RFr μ μ' C ∧ ∀ i, i < 29 → i ≠ 0 → i ≠ 14 → (i < 15 ∨ 22 ≤ i) → μ' (C i) = μ (C i) := ⟨fun z hz => ho.1 z (hz 0 (by omega)) (hz 15 (by omega)) (hz 14 (by omega)) (fun i hi => hz (16 + i) (by omega)), fun i hi a b c => ho.1 _ (h.inj hi (by omega) a) (h.inj hi (by omega) (by omega)) (h.inj hi (by omega) b) (fun j hj => h.inj hi (by omega) (by omega))⟩
theorem EO.ca {τ : MTau} {μ μ' : MMu} {C : Nat → Nat} {A : XA} (h : RI τ μ C A) (ho : EO μ μ' (C 0) (C 22) (Ca C) (C 14)) : RFr μ μ' C ∧ ∀ i, i < 22 → i ≠ 0 → i ≠ 14 → μ' (C i) = μ (C i) := ⟨fun z hz => ho.1 z (hz 0 (by omega)) (hz 22 (by omega)) (hz 14 (by omega)) (fun i hi => hz (23 + i) (by omega)), fun i hi a b => ho.1 _ (h.inj (by omega) (by omega) a) (h.inj (by omega) (by omega) (by omega)) (h.inj (by omega) (by omega) b) (fun j hj => h.inj (by omega) (by omega) (by omega))⟩
/-- the state now has become another -/
theorem RI.now {τ : MTau} {μ μ' : MMu} {C : Nat → Nat} {A : XA} {V : Val} {pu days : Int32} (h : RI τ μ C A) (hR : RS τ μ' (C 15) (Cn C) V pu days) (ho : EO μ μ' (C 0) (C 15) (Cn C) (C 14)) (hs : VS A.2.1.1 V) (h0 : V0 V) (hv : VI A.2.1.1 V) : RI τ μ' C (A.1, A.2.1, (V, pu, days), A.2.2.2) ∧ RFr μ μ' C ∧ ∀ k, k < 16 → μ' (C 0) k = μ (C 0) k := by
  obtain ⟨fr, e⟩ := EO.cn h ho
  have em := ho.2
  obtain ⟨h1, ⟨a1, a2, a3, a4, a5, a6, a7, a8, a12, a13, a14, a15, a20⟩, h3, ⟨h4, h4'⟩, h5, h6, ⟨V1, pu1, days1, h7⟩, h8, h9, x1, x2, x3, x4, x5⟩ := h
  refine ⟨⟨h1, ⟨by rw [em 1 (by omega)]; exact a1, by rw [em 2 (by omega)]; exact a2, by rw [em 3 (by omega)]; exact a3, by rw [em 4 (by omega)]; exact a4, by rw [em 5 (by omega)]; exact a5, by rw [em 6 (by omega)]; exact a6, by rw [em 7 (by omega)]; exact a7, by rw [em 8 (by omega)]; exact a8, by rw [em 12 (by omega)]; exact a12, by rw [em 13 (by omega)]; exact a13, by rw [em 14 (by omega)]; exact a14, by rw [em 15 (by omega)]; exact a15, by rw [em 20 (by omega)]; exact a20⟩, h3.eq (fun i a b => e i (by omega) (by omega) (by omega) (by omega)), ⟨h4, by rw [e 11 (by omega) (by omega) (by omega) (by omega)]; exact h4'⟩, h5.same (em 14 (by omega)) (em 15 (by omega)) (e 12 (by omega) (by omega) (by omega) (by omega)) (e 13 (by omega) (by omega) (by omega) (by omega)), hR, ⟨V1, pu1, days1, h7.same (e 22 (by omega) (by omega) (by omega) (by omega)) (fun i hi => e (23 + i) (by omega) (by omega) (by omega) (by omega))⟩, hs, h0, x1, x2, x3, x4, hv⟩, fr, fun k hk => em k (Or.inl hk)⟩
/-- the state ahead has become another -/
theorem RI.ahead {τ : MTau} {μ μ' : MMu} {C : Nat → Nat} {A : XA} {V : Val} {pu days : Int32} (h : RI τ μ C A) (hR : RS τ μ' (C 22) (Ca C) V pu days) (ho : EO μ μ' (C 0) (C 22) (Ca C) (C 14)) : RI τ μ' C A ∧ RFr μ μ' C ∧ ∀ k, k < 16 → μ' (C 0) k = μ (C 0) k := by
  obtain ⟨fr, e⟩ := EO.ca h ho
  have em := ho.2
  obtain ⟨h1, ⟨a1, a2, a3, a4, a5, a6, a7, a8, a12, a13, a14, a15, a20⟩, h3, ⟨h4, h4'⟩, h5, h6, ⟨V1, pu1, days1, h7⟩, h8, h9, x1, x2, x3, x4, x5⟩ := h
  exact ⟨⟨h1, ⟨by rw [em 1 (by omega)]; exact a1, by rw [em 2 (by omega)]; exact a2, by rw [em 3 (by omega)]; exact a3, by rw [em 4 (by omega)]; exact a4, by rw [em 5 (by omega)]; exact a5, by rw [em 6 (by omega)]; exact a6, by rw [em 7 (by omega)]; exact a7, by rw [em 8 (by omega)]; exact a8, by rw [em 12 (by omega)]; exact a12, by rw [em 13 (by omega)]; exact a13, by rw [em 14 (by omega)]; exact a14, by rw [em 15 (by omega)]; exact a15, by rw [em 20 (by omega)]; exact a20⟩, h3.eq (fun i a b => e i (by omega) (by omega) (by omega)), ⟨h4, by rw [e 11 (by omega) (by omega) (by omega)]; exact h4'⟩, h5.same (em 14 (by omega)) (em 15 (by omega)) (e 12 (by omega) (by omega) (by omega)) (e 13 (by omega) (by omega) (by omega)), h6.same (e 15 (by omega) (by omega) (by omega)) (fun i hi => e (16 + i) (by omega) (by omega) (by omega)), ⟨V, pu, days, hR⟩, h8, h9, x1, x2, x3, x4, x5⟩, fr, fun k hk => em k (Or.inl hk)⟩
