/-! steps of both beside each other -/
/-- no cell of either -/
def NOC (C : XC) (o : Nat) (S : SC) (N : Nat) (z : Nat) : Prop := ¬ XCell C z ∧ z ≠ o ∧ z ≠ S.2.1 ∧ ∀ b, 1 ≤ b → b < 64 → gEx N b = true → z ≠ S.2.2.2 b
def PFr (μ μ' : MMu) (C : XC) (o : Nat) (S : SC) (N : Nat) : Prop := ∀ z, NOC C o S N z → μ' z = μ z
theorem PFr.rf {μ : MMu} {C : XC} {o N : Nat} {S : SC} : PFr μ μ C o S N := fun _ _ => rfl
theorem PFr.tr {μ μ1 μ2 : MMu} {C : XC} {o N : Nat} {S : SC} (h : PFr μ μ1 C o S N) (h' : PFr μ1 μ2 C o S N) : PFr μ μ2 C o S N := fun z hz => (h' z hz).trans (h z hz)
theorem PFr.x {μ μ' : MMu} {C : XC} {o N : Nat} {S : SC} (h : XFr μ μ' C) : PFr μ μ' C o S N := fun z hz => h z hz.1
theorem PFr.s {μ μ' : MMu} {C : XC} {o N : Nat} {S : SC} (h : SFr μ μ' o S N) : PFr μ μ' C o S N := fun z hz => h z hz.2.1 hz.2.2.1 hz.2.2.2
/-- what is new is no cell of either -/
theorem PAR.noc {τ : MTau} {μ : MMu} {C : XC} {A : XA} {o K : Nat} {S : SC} {xs : List Int32} {z : Nat} (h : PAR τ μ C A o S K xs) (hz : τ z = none) : NOC C o S A.2.1.1 z := by
  obtain ⟨h1, h2, -⟩ := h
  obtain ⟨t0, -, -, -, -, -, -, tb, -, hr, -⟩ := h2
  refine ⟨fun e => h1.cell e hz, fun e => ?_, fun e => ?_, fun b b1 b2 b3 e => ?_⟩
  · rw [e, t0] at hz; cases hz
  · rw [e, tb] at hz; cases hz
  · rw [e, (hr b b1 b2 b3).2.1] at hz; cases hz
/-- the lines stand in both -/
def LNS (l : List LN) (xs : List Int32) : Prop := l.length = xs.length ∧ ∀ (k : Nat) (ln : LN) (x : Int32), l[k]? = some ln → xs[k]? = some x → LNX ln x
theorem PAR.all {τ : MTau} {μ : MMu} {C : XC} {T : Nat × (Nat → Nat)} {N : Nat} {l : List LN} {v : Val × Int32 × Int32} {e : Int32} {o K : Nat} {S : SC} {xs : List Int32} (h : PAR τ μ C (T, (N, l), v, e) o S K xs) : 2 ≤ N ∧ N ≤ 32 ∧ XI τ μ C (T, (N, l), v, e) ∧ SM τ μ o S N v.1 v.2.1 v.2.2 ∧ SOK N K v.1 ∧ ODS τ μ S.1 xs ∧ LNS l xs ∧ l.length ≤ 4 ∧ K < 900000000 := by
  obtain ⟨h1, h2, h3, h4, h5, h6⟩ := h
  obtain ⟨m1, m2, -⟩ := id h1.2.2.2.2.2.2.2.2.2.2
  have q := h4.2.1
  have h5' : l.length = xs.length := h5
  exact ⟨m1, m2, h1, h2, h3, h4, ⟨h5, h6⟩, by omega, h3.2.2.2⟩
theorem PAR.mk {τ : MTau} {μ : MMu} {C : XC} {T : Nat × (Nat → Nat)} {N : Nat} {l : List LN} {v : Val × Int32 × Int32} {e : Int32} {o K : Nat} {S : SC} {xs : List Int32} (h1 : XI τ μ C (T, (N, l), v, e)) (h2 : SM τ μ o S N v.1 v.2.1 v.2.2) (h3 : SOK N K v.1) (h4 : ODS τ μ S.1 xs) (h5 : LNS l xs) : PAR τ μ C (T, (N, l), v, e) o S K xs := ⟨h1, h2, h3, h4, h5.1, h5.2⟩
theorem PAR.up {τ : MTau} {μ : MMu} {C : XC} {A : XA} {o K K' : Nat} {S : SC} {xs : List Int32} (h : PAR τ μ C A o S K xs) (hk : K ≤ K') (hK : K' < 900000000) : PAR τ μ C A o S K' xs := ⟨h.1, h.2.1, h.2.2.1.up hk hK, h.2.2.2⟩
/-- first the object, then the valley by hand -/
theorem PAR.xs {τ : MTau} {μ μ1 μ2 : MMu} {C : XC} {T : Nat × (Nat → Nat)} {N : Nat} {l : List LN} {v v' : Val × Int32 × Int32} {e : Int32} {o K K' : Nat} {S : SC} {xs : List Int32} (h : PAR τ μ C (T, (N, l), v, e) o S K xs) (a1 : XI τ μ1 C (T, (N, l), v', e)) (a2 : XFr μ μ1 C) (b1 : SM τ μ2 o S N v'.1 v'.2.1 v'.2.2) (b2 : SFr μ1 μ2 o S N) (hO : SOK N K' v'.1) : PAR τ μ2 C (T, (N, l), v', e) o S K' xs ∧ PFr μ μ2 C o S N := by
  obtain ⟨-, -, h1, h2, -, h4, h5, -⟩ := h.all
  have s1 := h2.xfr h1 a2
  exact ⟨PAR.mk (a1.sfr s1 b2) b1 hO (s1.ods b2 (h4.xfr h1 a2)) h5, (PFr.x a2).tr (PFr.s b2)⟩
/-- first the valley by hand, then the object -/
theorem PAR.sx {τ : MTau} {μ μ1 μ2 : MMu} {C : XC} {T : Nat × (Nat → Nat)} {N : Nat} {l : List LN} {v v' : Val × Int32 × Int32} {e : Int32} {o K K' : Nat} {S : SC} {xs : List Int32} (h : PAR τ μ C (T, (N, l), v, e) o S K xs) (b1 : SM τ μ1 o S N v'.1 v'.2.1 v'.2.2) (b2 : SFr μ μ1 o S N) (a1 : XI τ μ2 C (T, (N, l), v', e)) (a2 : XFr μ1 μ2 C) (hO : SOK N K' v'.1) : PAR τ μ2 C (T, (N, l), v', e) o S K' xs ∧ PFr μ μ2 C o S N := by
  obtain ⟨-, -, h1, h2, -, h4, h5, -⟩ := h.all
  have x1 := h1.sfr h2 b2
  exact ⟨PAR.mk a1 (b1.xfr x1 a2) hO ((h2.ods b2 h4).xfr x1 a2) h5, (PFr.s b2).tr (PFr.x a2)⟩
/-- the object was asked -/
theorem PAR.q {τ : MTau} {μ μ1 : MMu} {C : XC} {T : Nat × (Nat → Nat)} {N : Nat} {l : List LN} {v : Val × Int32 × Int32} {e : Int32} {o K : Nat} {S : SC} {xs : List Int32} (h : PAR τ μ C (T, (N, l), v, e) o S K xs) (a1 : XI τ μ1 C (T, (N, l), v, e)) (a2 : XFr μ μ1 C) : PAR τ μ1 C (T, (N, l), v, e) o S K xs ∧ PFr μ μ1 C o S N := by
  obtain ⟨-, -, h1, h2, h3, h4, h5, -⟩ := h.all
  exact ⟨PAR.mk a1 (h2.xfr h1 a2) h3 (h4.xfr h1 a2) h5, PFr.x a2⟩
/-- new cells -/
theorem PAR.nw {E : MEnv} {τ τ' : MTau} {μ μ' : MMu} {C : XC} {T : Nat × (Nat → Nat)} {N : Nat} {l : List LN} {v : Val × Int32 × Int32} {e : Int32} {o K : Nat} {S : SC} {xs : List Int32} (h : PAR τ μ C (T, (N, l), v, e) o S K xs) (hN : NW E τ μ τ' μ') : PAR τ' μ' C (T, (N, l), v, e) o S K xs := by
  obtain ⟨-, -, h1, h2, h3, h4, h5, -⟩ := h.all
  have k : ∀ z, τ z ≠ none → τ' z = τ z ∧ μ' z = μ z := fun z hz => ⟨hN.1.1 z hz, hN.2 z hz⟩
  refine PAR.mk (h1.nw hN) (h2.keep (fun z hz => k z ?_)) h3 (h4.keep (fun z hz => ?_)) h5
  · rcases hz with e | ⟨n, e⟩ | ⟨n, e⟩ <;> rw [e] <;> simp
  · have hn : τ z ≠ none := by rcases hz with e | e | ⟨n, e⟩ <;> rw [e] <;> simp
    exact ⟨(k z hn).1, fun j => by rw [(k z hn).2]⟩
/-! the least of a stretch -/
def mnF (g : Nat → Int32) (f : Nat) : Nat → Int32
  | 0 => g f
  | n + 1 => imin (mnF g f n) (g (f + n))
theorem mnF_sp {g : Nat → Int32} {f : Nat} : ∀ (n : Nat), Mn g f (f + n + 1) (mnF g f (n + 1))
  | 0 => by
    show Mn g f (f + 1) (imin (g f) (g f))
    rw [imin_self]
    exact Mn.one
  | n + 1 => by
    rw [mnF]
    exact Mn.app (mnF_sp n) Mn.one (by omega) (by omega)
/-! opening each -/
theorem opS_j {N b : Nat} {S S' : GS} (h : VP S S') : VP (opS N b S) (opS N b S') := by
  obtain ⟨h1, h2⟩ := h
  unfold opS
  rw [h1]
  split
  · exact ⟨rfl, by show S.2.1 + 1 = S'.2.1 + 1; rw [h2]⟩
  · exact ⟨h1, h2⟩
theorem oE_j {N : Nat} {S S' : GS} (h : VP S S') : ∀ (k : Nat), VP (oE N k S) (oE N k S')
  | 0 => h
  | k + 1 => by
    rw [oE, oE]
    split
    · exact opS_j (oE_j h k)
    · exact oE_j h k
/-! what a look tells stands in the heights -/
theorem ht_look {N : Nat} {x pu : Int32} {V : Val} {f l t : Nat} (h2 : 2 ≤ N) (h32 : N ≤ 32) (hf : f < N) (hl : l < N) (ht' : t < N) : ht N (goR N (-15) x (nI f) (nI l) V pu).1 t = ht N V t := by
  have := ht_goS (o := -15) (x := x) (S := (V, pu, 0, 0, 0, 0)) h2 h32 hf hl ht'
  unfold goR
  rw [this]
  split
  · show nwh (-15) x (ht N V t) = ht N V t
    unfold nwh
    rw [if_neg (by decide), if_neg (by decide)]
  · rfl
theorem wok_m (n a : Nat) (ha : a ≤ 900) (hn : n < 100) : wOK (nI n - nI a) (-999) 999 = true ∧ na (nI n - nI a) ≤ 999 := by
  have e : (nI n - nI a).toInt = (n : Int) - a := by
    rw [Int32.toInt_sub, nI_ti (by omega), nI_ti (by omega)]
    exact Int.bmod_eq_of_le (by omega) (by omega)
  have e1 : (-999 : Int32).toInt = -999 := by decide
  have e2 : (999 : Int32).toInt = 999 := by decide
  unfold wOK na
  rw [e, decide_eq_true (show ¬ (nI n - nI a) < -999 by rw [Int32.lt_iff_toInt_lt, e, e1]; omega), decide_eq_true (show ¬ 999 < (nI n - nI a) by rw [Int32.lt_iff_toInt_lt, e, e2]; omega)]
  exact ⟨rfl, by omega⟩
theorem lg_e {x y : Int64} : (lg_cmp x y = 0) = (x = y) := propext (lg_cmp_eq x y)
theorem lg_s {x : Int64} : lg_cmp x x = 0 := (lg_cmp_eq x x).mpr rfl
theorem dc_s {w : Int64} {N : Nat} (h2 : 2 ≤ N) (h32 : N ≤ 32) : Op.cmpValue (FP.dcmp (FP.ddiv (FP.l2d w) (FP.i2d (nI N))) (FP.ddiv (FP.l2d w) (FP.i2d (nI N)))) .l = 0 := by
  rw [mean_cmp h2 h32]
  rfl
