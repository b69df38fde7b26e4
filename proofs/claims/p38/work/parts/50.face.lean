/-! the object: what it keeps -/
theorem ne_ty {τ : MTau} {a b : Nat} {x y : Nat ⊕ (Nat × Nat)} (ha : τ a = some x) (hb : τ b = some y) (h : x ≠ y) : a ≠ b := fun e => h (by rw [e, hb] at ha; injection ha with h; exact h.symm)
def VB (β : BS) (several : Bool) : Prop := (β.2.2.2.2.1 = 0 ∨ β.2.2.2.2.1 = 1) ∧ (β.2.2.2.2.1 = 0 → β.2.2.2.2.2 = 0) ∧ (several = false → β.2.2.2.1 = 0 ∧ β.2.2.2.2.1 = 0)
def VI (N : Nat) (V : Val) : Prop := ∀ b, 1 ≤ b → b < 64 → VB (V b) (gIn N b)
theorem VB_r {f l x : Int32} {β : BS} {s : Bool} (h : VB β s) (hs : f < l ↔ s = true) : VB (tkR f l x β) s := by
  obtain ⟨h1, h2, h3⟩ := h
  refine ⟨h1, h2, fun e => ?_⟩
  have hn : ¬ f < l := fun g => by rw [hs] at g; rw [e] at g; cases g
  show (if f < l then β.2.2.2.1 + x else β.2.2.2.1) = 0 ∧ β.2.2.2.2.1 = 0
  rw [if_neg hn]
  exact h3 e
theorem VB_l {f l x : Int32} {β : BS} {s : Bool} (h : VB β s) (hs : f < l ↔ s = true) : VB (tkL f l x β) s := by
  obtain ⟨h1, h2, h3⟩ := h
  unfold VB tkL
  cases s with
  | true =>
    have hp : f < l := hs.mpr rfl
    simp [hp]
  | false =>
    have hn : ¬ f < l := fun g => by have := hs.mp g; cases this
    simp only [hn, if_false]
    exact ⟨h1, h2, fun _ => h3 rfl⟩
theorem VB_o {β : BS} {s : Bool} : VB (opd β) s := ⟨Or.inl rfl, fun _ => rfl, fun _ => ⟨rfl, rfl⟩⟩
theorem VB_c {f l : Int32} {β γ : BS} {s : Bool} (h : VB γ s) (hs : f < l ↔ s = true) : VB (chl f l β γ) s := by
  unfold chl
  refine VB_r ?_ hs
  split
  · exact h
  · exact VB_l h hs
theorem VI_op {N b : Nat} {V : Val} (h2 : 2 ≤ N) (h32 : N ≤ 32) (h : VI N V) : VI N (opV N b V) := by
  intro a ha ha'
  unfold opV
  split
  · exact VB_o
  · split
    · exact VB_c (h a ha ha') (geo_lt h2 h32 ha')
    · exact h a ha ha'
theorem VI_te {N b : Nat} {V : Val} (h : VI N V) : VI N (teV b V) := by
  intro a ha ha'
  unfold teV
  split
  · rename_i e
    subst e
    exact h a ha ha'
  · exact h a ha ha'
theorem VI_rc {N b : Nat} {V : Val} {o x : Int32} (h2 : 2 ≤ N) (h32 : N ≤ 32) (h : VI N V) : VI N (rcV N o x b V) := by
  intro a ha ha'
  unfold rcV
  split
  · rename_i e
    subst e
    split
    · exact VB_r (h a ha ha') (geo_lt h2 h32 ha')
    · split
      · exact VB_l (h a ha ha') (geo_lt h2 h32 ha')
      · exact h a ha ha'
  · exact h a ha ha'
theorem VI_opS {N b : Nat} {S : GS} (h2 : 2 ≤ N) (h32 : N ≤ 32) (h : VI N S.1) : VI N (opS N b S).1 := by
  unfold opS
  split
  · exact VI_op h2 h32 h
  · exact h
theorem VI_dn {N : Nat} {o x f t : Int32} (h2 : 2 ≤ N) (h32 : N ≤ 32) : ∀ (k b : Nat) (S : GS), VI N S.1 → VI N (dn N o x f t k b S).1
  | 0, b, S, h => h
  | k + 1, b, S, h => by
    rw [dn]
    split
    · exact VI_rc h2 h32 h
    · split
      · exact h
      · have h1 : VI N (opS N b S).1 := VI_opS h2 h32 h
        have hA : VI N (if tch N f t (2 * b) = true then dn N o x f t k (2 * b) (opS N b S) else opS N b S).1 := by
          split
          · exact VI_dn h2 h32 k _ _ h1
          · exact h1
        refine VI_te ?_
        show VI N (if tch N f t (2 * b + 1) = true then dn N o x f t k (2 * b + 1) _ else _).1
        split
        · exact VI_dn h2 h32 k _ _ hA
        · exact hA
theorem VI_go {N : Nat} {o x f t : Int32} {S : GS} (h2 : 2 ≤ N) (h32 : N ≤ 32) (h : VI N S.1) : VI N (goS N o x f t S).1 := VI_dn h2 h32 6 1 _ h
theorem VI_ff {N : Nat} {t : Int32} (h2 : 2 ≤ N) (h32 : N ≤ 32) : ∀ (k b : Nat) (S : GS), VI N S.1 → VI N (ff N t k b S).2.1
  | 0, b, S, h => h
  | k + 1, b, S, h => by
    rw [ff]
    split
    · exact VI_ff h2 h32 k _ _ (VI_opS h2 h32 h)
    · exact h
theorem VI_ffS {N : Nat} {t : Int32} {S : GS} (h2 : 2 ≤ N) (h32 : N ≤ 32) (h : VI N S.1) : VI N (ffS N t S).2.1 := by
  unfold ffS
  split
  · exact h
  · exact VI_ff h2 h32 6 1 S h
theorem VI_oE {N : Nat} (h2 : 2 ≤ N) (h32 : N ≤ 32) : ∀ (k : Nat) (S : GS), VI N S.1 → VI N (oE N k S).1
  | 0, S, h => h
  | k + 1, S, h => by
    rw [oE]
    split
    · exact VI_opS h2 h32 (VI_oE h2 h32 k S h)
    · exact VI_oE h2 h32 k S h
theorem VI_ord {N : Nat} {o a f g w : Int32} {S : GS} (h2 : 2 ≤ N) (h32 : N ≤ 32) (h : VI N S.1) : VI N (ordS N o a f g w S).1 := by
  unfold ordS
  split
  · exact h
  · exact VI_go h2 h32 h
theorem VI_lines {N : Nat} {days : Int32} (h2 : 2 ≤ N) (h32 : N ≤ 32) : ∀ (l : List LN) (S : GS), VI N S.1 → VI N (l.foldl (lnE N days) S).1
  | [], S, h => h
  | ln :: l, S, h => VI_lines h2 h32 l _ (VI_ord h2 h32 h)
theorem VI_days {N : Nat} {l : List LN} (h2 : 2 ≤ N) (h32 : N ≤ 32) : ∀ (k : Nat) (x : GS × Int32), VI N x.1.1 → VI N (daysS N l k x).1.1
  | 0, x, h => h
  | k + 1, x, h => VI_days h2 h32 k _ (VI_lines h2 h32 l x.1 h)
theorem VI_zero {N : Nat} : VI N zV := fun b _ _ => ⟨Or.inl rfl, fun _ => rfl, fun _ => ⟨rfl, rfl⟩⟩
/-- the cells of an object: itself, tape, its bytes, tokens, their rows, plan, its steps, draft, its steps, grammar, worker, its pile, the valley now, its row, the valley ahead, its row; the nodes of both -/
abbrev XC : Type := (Nat → Nat) × (Nat → Nat) × (Nat → Nat)
/-- what it stands for: tape, terraces and lines, branches, pushes, days, place of the error -/
abbrev XA : Type := (Nat × (Nat → Nat)) × (Nat × List LN) × (Val × Int32 × Int32) × Int32
def XCell (C : XC) (z : Nat) : Prop := (∃ i, i < 17 ∧ z = C.1 i) ∨ ∃ b, 1 ≤ b ∧ b < 64 ∧ (z = C.2.1 b ∨ z = C.2.2 b)
def XFr (μ μ' : MMu) (C : XC) : Prop := ∀ z, ¬ XCell C z → μ' z = μ z
theorem XFr.rfl' {μ : MMu} {C : XC} : XFr μ μ C := fun _ _ => rfl
theorem XFr.trans {μ μ' μ'' : MMu} {C : XC} (h1 : XFr μ μ' C) (h2 : XFr μ' μ'' C) : XFr μ μ'' C := fun z a => (h2 z a).trans (h1 z a)
def XP (τ : MTau) (μ : MMu) (C : XC) (e : Int32) : Prop := τ (C.1 0) = some (.inl 7) ∧ μ (C.1 0) 0 = .ref (C.1 1) ∧ μ (C.1 0) 1 = .ref (C.1 3) ∧ μ (C.1 0) 2 = .ref (C.1 6) ∧ μ (C.1 0) 3 = .ref (C.1 8) ∧ μ (C.1 0) 4 = .ref (C.1 10) ∧ μ (C.1 0) 5 = .ref (C.1 11) ∧ μ (C.1 0) 6 = .ref (C.1 13) ∧ μ (C.1 0) 7 = .ref (C.1 15) ∧ μ (C.1 0) 8 = .int e
def XS (C : XC) : Prop := C.1 6 ≠ C.1 8 ∧ C.1 7 ≠ C.1 9 ∧ C.1 15 ≠ C.1 13 ∧ C.1 16 ≠ C.1 14 ∧ ∀ a b, 1 ≤ a → a < 64 → 1 ≤ b → b < 64 → C.2.2 a ≠ C.2.1 b
def XPl (τ : MTau) (μ : MMu) (C : XC) (N : Nat) (l : List LN) : Prop := ∃ sp pn, PL τ μ (C.1 6) (C.1 7) ((l.map flt).flatten) l.length sp (nI N) pn
def XDr (τ : MTau) (μ : MMu) (C : XC) : Prop := ∃ st oc sp M pn, PL τ μ (C.1 8) (C.1 9) st oc sp M pn
def XTk (τ : MTau) (μ : MMu) (C : XC) : Prop := ∃ ps tv cnt cur beh, TK τ μ (C.1 3) (C.1 4) (C.1 5) ps tv cnt cur beh
def XGr (τ : MTau) (μ : MMu) (C : XC) : Prop := τ (C.1 10) = some (.inl 1) ∧ μ (C.1 10) 0 = .ref (C.1 3) ∧ μ (C.1 10) 1 = .ref (C.1 8)
def XWk (τ : MTau) (μ : MMu) (C : XC) : Prop := ∃ pile, WS τ μ (C.1 11) (C.1 12) pile
def XNow (τ : MTau) (μ : MMu) (C : XC) (N : Nat) (v : Val × Int32 × Int32) : Prop := ∃ j, CV τ μ (C.1 13) (C.1 14) C.2.1 N (v.1, v.2.1, j) v.2.2
def XAh (τ : MTau) (μ : MMu) (C : XC) (N : Nat) : Prop := ∃ S d, CV τ μ (C.1 15) (C.1 16) C.2.2 N S d
def XM (A : XA) : Prop := 2 ≤ A.2.1.1 ∧ A.2.1.1 ≤ 32 ∧ (∀ ln ∈ A.2.1.2, LG ln) ∧ A.2.1.2.length ≤ 16 ∧ VI A.2.1.1 A.2.2.1.1
def XI (τ : MTau) (μ : MMu) (C : XC) (A : XA) : Prop := XP τ μ C A.2.2.2 ∧ TP τ μ (C.1 1) (C.1 2) A.1.1 A.1.2 ∧ XTk τ μ C ∧ XPl τ μ C A.2.1.1 A.2.1.2 ∧ XDr τ μ C ∧ XGr τ μ C ∧ XWk τ μ C ∧ XNow τ μ C A.2.1.1 A.2.2.1 ∧ XAh τ μ C A.2.1.1 ∧ XS C ∧ XM A
theorem XP.same {τ : MTau} {μ μ' : MMu} {C : XC} {e : Int32} (h : XP τ μ C e) (ho : μ' (C.1 0) = μ (C.1 0)) : XP τ μ' C e := by
  unfold XP
  rw [ho]
  exact h
theorem TP.same {τ : MTau} {μ μ' : MMu} {t bt len : Nat} {B : Nat → Nat} (h : TP τ μ t bt len B) (e1 : μ' t = μ t) (e2 : μ' bt = μ bt) : TP τ μ' t bt len B := by
  unfold TP
  rw [e1, e2]
  exact h
theorem XGr.same {τ : MTau} {μ μ' : MMu} {C : XC} (h : XGr τ μ C) (ho : μ' (C.1 10) = μ (C.1 10)) : XGr τ μ' C := by
  unfold XGr
  rw [ho]
  exact h
/-- the types of the cells -/
def cty : Nat → Nat ⊕ (Nat × Nat)
  | 0 => .inl 7
  | 1 => .inl 3
  | 2 => .inr (2, 2000)
  | 3 => .inl 4
  | 4 => .inr (0, 401)
  | 5 => .inr (0, 401)
  | 6 => .inl 2
  | 7 => .inr (0, 400)
  | 8 => .inl 2
  | 9 => .inr (0, 400)
  | 10 => .inl 1
  | 11 => .inl 6
  | 12 => .inr (0, 64)
  | 13 => .inl 5
  | 14 => .inr (4, 64)
  | 15 => .inl 5
  | _ => .inr (4, 64)
theorem XI.ty {τ : MTau} {μ : MMu} {C : XC} {A : XA} (h : XI τ μ C A) : ∀ i, i < 17 → τ (C.1 i) = some (cty i) := by
  obtain ⟨h1, h2, ⟨ps, tv, cnt, cur, beh, h3⟩, ⟨sp, pn, h4⟩, ⟨st, oc, sq, M, pm, h5⟩, h6, ⟨pile, h7⟩, ⟨j, h8⟩, ⟨S, d, h9⟩, _, _⟩ := h
  intro i hi
  have : i = 0 ∨ i = 1 ∨ i = 2 ∨ i = 3 ∨ i = 4 ∨ i = 5 ∨ i = 6 ∨ i = 7 ∨ i = 8 ∨ i = 9 ∨ i = 10 ∨ i = 11 ∨ i = 12 ∨ i = 13 ∨ i = 14 ∨ i = 15 ∨ i = 16 := by omega
  rcases this with rfl | rfl | rfl | rfl | rfl | rfl | rfl | rfl | rfl | rfl | rfl | rfl | rfl | rfl | rfl | rfl | rfl
  · exact h1.1
  · exact h2.1
  · exact h2.2.2.2.1
  · exact h3.1
  · exact h3.2.2.2.2.2.2.1
  · exact h3.2.2.2.2.2.2.2.1
  · exact h4.1
  · exact h4.2.2.2.2.2.2.2.1
  · exact h5.1
  · exact h5.2.2.2.2.2.2.2.1
  · exact h6.1
  · exact h7.1
  · exact h7.2.2.2.1
  · exact h8.1
  · exact h8.2.2.2.2.2.2.2.2.2.2.1.1
  · exact h9.1
  · exact h9.2.2.2.2.2.2.2.2.2.2.1.1
theorem XI.tyn {τ : MTau} {μ : MMu} {C : XC} {A : XA} (h : XI τ μ C A) : ∀ b, 1 ≤ b → b < 64 → τ (C.2.1 b) = some (.inl 0) ∧ τ (C.2.2 b) = some (.inl 0) := by
  obtain ⟨_, _, _, _, _, _, _, ⟨j, h8⟩, ⟨S, d, h9⟩, _, _⟩ := h
  exact fun b hb hb' => ⟨(h8.nod hb hb').1, (h9.nod hb hb').1⟩
theorem XI.cell {τ : MTau} {μ : MMu} {C : XC} {A : XA} (h : XI τ μ C A) {z : Nat} (hz : XCell C z) : τ z ≠ none := by
  rcases hz with ⟨i, hi, rfl⟩ | ⟨b, hb, hb', rfl | rfl⟩
  · rw [h.ty i hi]; simp
  · rw [(h.tyn b hb hb').1]; simp
  · rw [(h.tyn b hb hb').2]; simp
theorem XI.ne {τ : MTau} {μ : MMu} {C : XC} {A : XA} (h : XI τ μ C A) {i j : Nat} (hi : i < 17) (hj : j < 17) (hc : cty i ≠ cty j) : C.1 i ≠ C.1 j := ne_ty (h.ty i hi) (h.ty j hj) hc
theorem XI.nn {τ : MTau} {μ : MMu} {C : XC} {A : XA} (h : XI τ μ C A) {i b : Nat} (hi : i < 17) (hb : 1 ≤ b) (hb' : b < 64) (hc : cty i ≠ .inl 0) : C.1 i ≠ C.2.1 b ∧ C.1 i ≠ C.2.2 b := ⟨ne_ty (h.ty i hi) (h.tyn b hb hb').1 hc, ne_ty (h.ty i hi) (h.tyn b hb hb').2 hc⟩
/-- the worker, the valley now or the valley ahead have changed -/
theorem XI.upd {τ : MTau} {μ μ' : MMu} {C : XC} {A : XA} {v : Val × Int32 × Int32} (h : XI τ μ C A) (ho : ∀ z, (∀ i, 11 ≤ i → i < 17 → z ≠ C.1 i) → (∀ b, 1 ≤ b → b < 64 → z ≠ C.2.1 b ∧ z ≠ C.2.2 b) → μ' z = μ z) (hw : XWk τ μ' C) (hn : XNow τ μ' C A.2.1.1 v) (ha : XAh τ μ' C A.2.1.1) (hv : VI A.2.1.1 v.1) : XI τ μ' C (A.1, A.2.1, v, A.2.2.2) ∧ XFr μ μ' C := by
  have key : ∀ i, i < 11 → μ' (C.1 i) = μ (C.1 i) := fun i hi => ho _ (fun j hj hj' => h.ne (by omega) hj' (by
    have e1 : i = 0 ∨ i = 1 ∨ i = 2 ∨ i = 3 ∨ i = 4 ∨ i = 5 ∨ i = 6 ∨ i = 7 ∨ i = 8 ∨ i = 9 ∨ i = 10 := by omega
    have e2 : j = 11 ∨ j = 12 ∨ j = 13 ∨ j = 14 ∨ j = 15 ∨ j = 16 := by omega
    rcases e2 with rfl | rfl | rfl | rfl | rfl | rfl <;> rcases e1 with rfl | rfl | rfl | rfl | rfl | rfl | rfl | rfl | rfl | rfl | rfl <;> simp [cty])) (fun b hb hb' => h.nn (by omega) hb hb' (by
    have e1 : i = 0 ∨ i = 1 ∨ i = 2 ∨ i = 3 ∨ i = 4 ∨ i = 5 ∨ i = 6 ∨ i = 7 ∨ i = 8 ∨ i = 9 ∨ i = 10 := by omega
    rcases e1 with rfl | rfl | rfl | rfl | rfl | rfl | rfl | rfl | rfl | rfl | rfl <;> simp [cty]))
  obtain ⟨h1, h2, ⟨ps, tv, cnt, cur, beh, h3⟩, ⟨sp, pn, h4⟩, ⟨st, oc, sq, M, pm, h5⟩, h6, h7, h8, h9, h10, m1, m2, m3, m4, m5⟩ := h
  refine ⟨⟨h1.same (key 0 (by omega)), h2.same (key 1 (by omega)) (key 2 (by omega)), ⟨ps, tv, cnt, cur, beh, h3.same (key 3 (by omega)) (key 4 (by omega)) (key 5 (by omega))⟩, ⟨sp, pn, h4.same (key 6 (by omega)) (key 7 (by omega))⟩, ⟨st, oc, sq, M, pm, h5.same (key 8 (by omega)) (key 9 (by omega))⟩, h6.same (key 10 (by omega)), hw, hn, ha, h10, m1, m2, m3, m4, hv⟩, fun z hz => ho z (fun i _ hi e => hz (Or.inl ⟨i, hi, e⟩)) (fun b hb hb' => ⟨fun e => hz (Or.inr ⟨b, hb, hb', Or.inl e⟩), fun e => hz (Or.inr ⟨b, hb, hb', Or.inr e⟩)⟩)⟩
/-- the valley now has changed -/
theorem XI.now {τ : MTau} {μ μ' : MMu} {C : XC} {A : XA} {S : GS} {d : Int32} (h : XI τ μ C A) (hC : CV τ μ' (C.1 13) (C.1 14) C.2.1 A.2.1.1 S d) (ho : VOut μ μ' (C.1 13) C.2.1) (hv : VI A.2.1.1 S.1) : XI τ μ' C (A.1, A.2.1, (S.1, S.2.1, d), A.2.2.2) ∧ XFr μ μ' C := by
  obtain ⟨pile, h7⟩ := h.2.2.2.2.2.2.1
  obtain ⟨j, h8⟩ := h.2.2.2.2.2.2.2.1
  obtain ⟨S', d', h9⟩ := h.2.2.2.2.2.2.2.2.1
  have hs := h.2.2.2.2.2.2.2.2.2.1
  exact h.upd (v := (S.1, S.2.1, d)) (fun z a b => ho z (a 13 (by omega) (by omega)) (fun i hi hi' => (b i hi hi').1)) ⟨pile, h7.v2 h8 ho⟩ ⟨S.2.2, hC⟩ ⟨S', d', h9.frame h8 ho hs.2.2.1 hs.2.2.2.2⟩ hv
/-- the valley ahead has changed -/
theorem XI.ahd {τ : MTau} {μ μ' : MMu} {C : XC} {A : XA} {S : GS} {d : Int32} (h : XI τ μ C A) (hC : CV τ μ' (C.1 15) (C.1 16) C.2.2 A.2.1.1 S d) (ho : VOut μ μ' (C.1 15) C.2.2) : XI τ μ' C A ∧ XFr μ μ' C := by
  obtain ⟨pile, h7⟩ := h.2.2.2.2.2.2.1
  obtain ⟨j, h8⟩ := h.2.2.2.2.2.2.2.1
  obtain ⟨S', d', h9⟩ := h.2.2.2.2.2.2.2.2.1
  have hs := h.2.2.2.2.2.2.2.2.2.1
  exact h.upd (v := A.2.2.1) (fun z a b => ho z (a 15 (by omega) (by omega)) (fun i hi hi' => (b i hi hi').2)) ⟨pile, h7.v2 h9 ho⟩ ⟨j, h8.frame h9 ho hs.2.2.1.symm (fun a b ha ha' hb hb' e => hs.2.2.2.2 b a hb hb' ha ha' e.symm)⟩ ⟨S, d, hC⟩ h.2.2.2.2.2.2.2.2.2.2.2.2.2.2
