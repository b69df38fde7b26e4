/-! the law's text, taught -/
theorem Lx_at {B : Nat → Nat} {len : Nat} : ∀ (ts : List Int32) (p q j : Nat), Lx B len ts p q → bbk (gB B len) 2001 p = plc B len j → (∀ i t, ts[i]? = some t → tkV B len (plc B len (j + i)) = t) ∧ bbk (gB B len) 2001 q = plc B len (j + ts.length)
  | [], p, q, j, h, e => ⟨fun i t ht => by simp at ht, by rw [List.length_nil, Nat.add_zero, ← e]; exact h.symm⟩
  | u :: ts, p, q, j, h, e => by
    obtain ⟨h1, h2⟩ := h
    rw [e] at h1 h2
    obtain ⟨g1, g2⟩ := Lx_at ts _ q (j + 1) h2 rfl
    refine ⟨fun i t ht => ?_, by rw [g2, List.length_cons, show j + 1 + ts.length = j + (ts.length + 1) by omega]⟩
    cases i with
    | zero =>
      have : u = t := by simpa using ht
      rw [← this]
      exact h1
    | succ i =>
      rw [List.getElem?_cons_succ] at ht
      rw [show j + (i + 1) = j + 1 + i by omega]
      exact g1 i t ht
theorem LXs.atv {B : Nat → Nat} {w : List Nat} {ts : List Int32} (h : LXs B w.length w ts) (hw : Wd B w.length 0 w) (h4 : ts.length < 400) : At (tvs B w.length) 0 (ts ++ [-1]) := by
  have hL := h 0 hw
  rw [Nat.zero_add] at hL
  obtain ⟨g1, g2⟩ := Lx_at ts 0 w.length 0 hL rfl
  rw [Nat.zero_add] at g2
  have hend : bbk (gB B w.length) 2001 w.length = w.length := bbk_no (by rw [gB_out (Nat.le_refl _)]; exact bl_neg)
  have hv : tkV B w.length (plc B w.length ts.length) = -1 := by
    rw [← g2, hend]
    unfold tkV
    rw [gB_out (Nat.le_refl _), if_pos (by decide)]
  intro i t ht
  rw [Nat.zero_add]
  unfold tvs
  by_cases hi : i < ts.length
  · rw [List.getElem?_append_left hi] at ht
    rw [if_neg (fun z => by omega)]
    have := g1 i t ht
    rw [Nat.zero_add] at this
    exact this
  · rw [List.getElem?_append_right (by omega)] at ht
    have e : i = ts.length := by
      by_cases e : i = ts.length
      · exact e
      · rw [List.getElem?_eq_none (by simp; omega)] at ht
        cases ht
    subst e
    rw [Nat.sub_self] at ht
    have : (-1 : Int32) = t := by simpa using ht
    rw [← this, if_neg (fun z => z.2 hv)]
    exact hv
theorem nodeTk_len {k nm : Nat} {a b : List Int32} : (nodeTk k nm a b).length ≤ 5 + a.length + b.length := by
  unfold nodeTk
  repeat' split
  all_goals simp only [List.length_append, List.length_cons, List.length_nil]; omega
theorem tk_s1 {f : Nat} {x : Int32} {dp : Nat} (hdp : 1 < dp) (hf : 1 ≤ f) : (tkF f false x dp).length = 1 := by
  obtain ⟨t, e, -⟩ := sum_hd (x := x) hdp hf
  rw [e]
  rfl
theorem tk_s {f : Nat} {x : Int32} {dp : Nat} (hdp : 1 ≤ dp) (hf : 2 ≤ f) : (tkF f false x dp).length ≤ 7 := by
  obtain ⟨f, rfl⟩ : ∃ g, f = g + 1 := ⟨f - 1, by omega⟩
  rw [tkF_s]
  have h := nodeTk_len (k := kdG false x dp) (nm := nmG false x) (a := tkF f (chA false x dp).1 (chA false x dp).2 (dp + 1)) (b := tkF f (chB false x dp).1 (chB false x dp).2 (dp + 1))
  have ea : (tkF f (chA false x dp).1 (chA false x dp).2 (dp + 1)).length = 1 := tk_s1 (by omega) (by omega)
  have eb : (tkF f (chB false x dp).1 (chB false x dp).2 (dp + 1)).length = 1 := tk_s1 (by omega) (by omega)
  omega
theorem tk_t2 {f : Nat} {x : Int32} {dp : Nat} (hdp : 2 ≤ dp) (hf : 2 ≤ f) : (tkF f true x dp).length ≤ 7 := by
  obtain ⟨f, rfl⟩ : ∃ g, f = g + 1 := ⟨f - 1, by omega⟩
  have h25 := (kdT_ok x dp).2 (by omega)
  have ea : chA true x dp = (false, x * 3 + 7) := by
    unfold chA; rw [if_pos rfl, if_pos h25]
  have eb : chB true x dp = (false, x * 5 + 1) := by
    unfold chB; rw [if_pos rfl, if_pos h25]
  rw [tkF_s, ea, eb]
  have h := nodeTk_len (k := kdG true x dp) (nm := nmG true x) (a := tkF f false (x * 3 + 7) (dp + 1)) (b := tkF f false (x * 5 + 1) (dp + 1))
  have ea : (tkF f false (x * 3 + 7) (dp + 1)).length = 1 := tk_s1 (by omega) (by omega)
  have eb : (tkF f false (x * 5 + 1) (dp + 1)).length = 1 := tk_s1 (by omega) (by omega)
  show (nodeTk _ _ (tkF f false (x * 3 + 7) (dp + 1)) (tkF f false (x * 5 + 1) (dp + 1))).length ≤ 7
  omega
theorem tk_t1 {f : Nat} {x : Int32} {dp : Nat} (hdp : 1 ≤ dp) (hf : 3 ≤ f) : (tkF f true x dp).length ≤ 19 := by
  obtain ⟨f, rfl⟩ : ∃ g, f = g + 1 := ⟨f - 1, by omega⟩
  rw [tkF_s]
  have h := nodeTk_len (k := kdG true x dp) (nm := nmG true x) (a := tkF f (chA true x dp).1 (chA true x dp).2 (dp + 1)) (b := tkF f (chB true x dp).1 (chB true x dp).2 (dp + 1))
  have ha : ∀ (ty : Bool) (y : Int32), (tkF f ty y (dp + 1)).length ≤ 7 := fun ty y => by
    cases ty with
    | false => exact Nat.le_trans (Nat.le_of_eq (tk_s1 (by omega) (by omega))) (by omega)
    | true => exact tk_t2 (by omega) (by omega)
  have h1 := ha (chA true x dp).1 (chA true x dp).2
  have h2 := ha (chB true x dp).1 (chB true x dp).2
  omega
theorem lnT_len (x : Int32) : (lnT x).length ≤ 60 := by
  have a1 := tk_s (f := 3) (x := x >>> 3) (dp := 1) (by omega) (by omega)
  have a2 := tk_s (f := 3) (x := x >>> 4) (dp := 2) (by omega) (by omega)
  have a3 := tk_s (f := 3) (x := x >>> 6) (dp := blw (x >>> 5) 2 + 1) (by omega) (by omega)
  have a4 := tk_t1 (f := 3) (x := x >>> 2) (dp := 1) (by omega) (by omega)
  have l1 : (lnTa x).length ≤ 7 := by
    unfold lnTa
    split
    · simp
    · exact a1
  have l2 : (lnTw x).length ≤ 20 := by
    unfold lnTw
    split
    · simp
    · rw [List.length_cons]; omega
  unfold lnT
  simp only [List.length_append, List.length_cons, List.length_nil]
  omega
theorem lnsT_len : ∀ (xs : List Int32), (lnsT xs).length ≤ 60 * xs.length
  | [] => by simp [lnsT]
  | x :: xs => by
    have := lnsT_len xs
    have := lnT_len x
    rw [lnsT, List.length_append, List.length_cons]
    omega
/-- all bytes -/
def lnsB : List Int32 → List Nat
  | [] => []
  | x :: xs => [10] ++ (ordT x ++ lnsB xs)
def hdB (n : Option Nat) : List Nat := match n with
  | none => []
  | some N => lsb 0 ++ (dig N ++ lsb 1)
theorem lex_lns {B : Nat → Nat} {len : Nat} (hl : len ≤ 2000) : ∀ (xs : List Int32), LXs B len (lnsB xs) (lnsT xs)
  | [] => LXs.nil
  | x :: xs => (LXs.bl (c := 10) hl (Or.inr rfl)).app ((lex_ord hl x).app (lex_lns hl xs))
theorem lex_hd {B : Nat → Nat} {len : Nat} (hl : len ≤ 2000) (n : Option Nat) (hn : ∀ N, n = some N → N < 1000000) : LXs B len (hdB n) (hdT n) := by
  cases n with
  | none => exact LXs.nil
  | some N =>
    have b32 := LXs.bl (B := B) (c := 32) hl (Or.inl rfl)
    exact (LXs.wd (w := [116, 101, 114, 114, 97, 99, 101, 115]) (t := -3) (by decide) (by decide) b32).app (LXs.nm (hn N rfl) (by decide) (LXs.sy (c := 59) (t := -11) (by decide)))
/-- the text is read without an error -/
theorem teE_ok {B : Nat → Nat} {n : Option Nat} {xs : List Int32} (hn : ∀ N, n = some N → 2 ≤ N ∧ N ≤ 32) (hx : xs.length ≤ 4) (hlen : (hdB n ++ lnsB xs).length ≤ 2000) (hw : Wd B (hdB n ++ lnsB xs).length 0 (hdB n ++ lnsB xs)) : ∃ l : List LN, teE B (hdB n ++ lnsB xs).length = (0, -1, some (n.getD 16, l)) ∧ l.length = xs.length ∧ ∀ (i : Nat) (ln : LN) (x : Int32), l[i]? = some ln → xs[i]? = some x → LNX ln x := by
  have hn' : ∀ N, n = some N → N < 1000000 := fun N h => by have := hn N h; omega
  have hL := (lex_hd (B := B) hlen n hn').app (lex_lns hlen xs)
  have hT : (hdT n ++ lnsT xs).length < 400 := by
    have := lnsT_len xs
    have h3 : (hdT n).length ≤ 3 := by
      cases n with
      | none => exact Nat.zero_le _
      | some N => exact Nat.le_refl _
    rw [List.length_append]
    omega
  have hA := hL.atv hw hT
  rw [List.append_assoc] at hA
  obtain ⟨l, l1, l2, l3⟩ := pva_ok hn' hx hA
  refine ⟨l, ?_, l2, l3⟩
  generalize (hdB n ++ lnsB xs).length = len at *
  unfold teE
  rw [l1]
  show (if badN ((n.map nI).getD 16) = true then _ else _) = _
  have hg : (n.map nI).getD 16 = nI (n.getD 16) := by
    cases n <;> rfl
  have h16 : 2 ≤ n.getD 16 ∧ n.getD 16 ≤ 32 := by
    cases n with
    | none => exact ⟨by decide, by decide⟩
    | some N => exact hn N rfl
  have hb : badN (nI (n.getD 16)) = false := by
    unfold badN
    have q1 : ¬ nI (n.getD 16) < 2 := nI_nlt (b := 2) h16.1 (by omega)
    have q2 : ¬ (32 : Int32) < nI (n.getD 16) := nI_nlt (a := 32) h16.2 (by omega)
    rw [decide_eq_false q1, decide_eq_false q2]
    rfl
  rw [hg, hb, if_neg Bool.false_ne_true, List.getElem?_eq_none (by omega)]
  show ((0 : Int32), (-1 : Int32), some ((nI (n.getD 16)).toNatClampNeg, l)) = _
  rw [nI_clamp (by omega)]
