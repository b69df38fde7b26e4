/-! the law's lines, read back and reckoned -/
def fuelOK (f : Nat) (ty : Bool) (dp : Nat) : Prop := (if ty = true then (if dp ≤ 1 then 3 else 2) else (if dp ≤ 1 then 2 else 1)) ≤ f
theorem fuel_ch {f : Nat} {ty : Bool} {x : Int32} {dp : Nat} (hdp : 1 ≤ dp) (h : fuelOK (f + 1) ty dp) (h7 : 7 ≤ kdG ty x dp) : fuelOK f (chA ty x dp).1 (dp + 1) ∧ fuelOK f (chB ty x dp).1 (dp + 1) := by
  unfold fuelOK at h ⊢
  have e2 : ¬ dp + 1 ≤ 1 := by omega
  cases ty with
  | false =>
    have hk := (kdS_ok x dp).2
    have ek : kdG false x dp = kdS x dp := rfl
    have hd : dp ≤ 1 := by
      by_cases h : 1 < dp
      · have := hk h
        omega
      · omega
    have ea : (chA false x dp).1 = false := rfl
    have eb : (chB false x dp).1 = false := rfl
    rw [if_neg Bool.false_ne_true, if_pos hd] at h
    rw [ea, eb, if_neg Bool.false_ne_true, if_neg e2]
    exact ⟨by omega, by omega⟩
  | true =>
    rw [if_pos rfl] at h
    by_cases h25 : kdT x dp < 25
    · have ea : (chA true x dp).1 = false := by unfold chA; rw [if_pos rfl, if_pos h25]
      have eb : (chB true x dp).1 = false := by unfold chB; rw [if_pos rfl, if_pos h25]
      rw [ea, eb, if_neg Bool.false_ne_true, if_neg e2]
      split at h <;> exact ⟨by omega, by omega⟩
    · have ea : (chA true x dp).1 = true := by unfold chA; rw [if_pos rfl, if_neg h25]
      have eb : (chB true x dp).1 = true := by unfold chB; rw [if_pos rfl, if_neg h25]
      have hd : dp ≤ 1 := by
        by_cases h : 1 < dp
        · exact absurd ((kdT_ok x dp).2 h) h25
        · omega
      rw [if_pos hd] at h
      rw [ea, eb, if_pos rfl, if_neg e2]
      exact ⟨by omega, by omega⟩
theorem run_1 {r : RC} {c : Int32} {st : List Int32} : runL r [c] st = stp r c st := by
  rw [runL]
  cases stp r c st <;> rfl
theorem run_cd (r : RC) : ∀ (f : Nat) (ty : Bool) (x : Int32) (dp : Nat) (st : List Int32), 1 ≤ dp → fuelOK f ty dp → st.length + f ≤ 64 → runL r (cdF f ty x dp) st = some (tval r f ty x dp :: st)
  | 0, ty, _, dp, _, _, h, _ => by
    unfold fuelOK at h
    split at h <;> split at h <;> omega
  | f + 1, ty, x, dp, st, hdp, hf, hst => by
    have hk := kdG_ok ty x dp
    have hc := fun h7 => fuel_ch (x := x) hdp hf h7
    have ht := chA_k (ty := ty) (x := x) (dp := dp)
    have hnm := nmG_ok ty x
    have Ra := fun h7 st hs => run_cd r f (chA ty x dp).1 (chA ty x dp).2 (dp + 1) st (by omega) (hc h7).1 hs
    have Rb := fun h7 st hs => run_cd r f (chB ty x dp).1 (chB ty x dp).2 (dp + 1) st (by omega) (hc h7).2 hs
    have ba := fun (h : (chA ty x dp).1 = true) => tval_t r (f := f) (x := (chA ty x dp).2) (dp := dp + 1) h
    have bb := fun (h : (chB ty x dp).1 = true) => tval_t r (f := f) (x := (chB ty x dp).2) (dp := dp + 1) h
    rw [cdF_s, tval_s]
    generalize kdG ty x dp = k at *
    generalize nmG ty x = nm at *
    generalize cdF f (chA ty x dp).1 (chA ty x dp).2 (dp + 1) = ca at *
    generalize cdF f (chB ty x dp).1 (chB ty x dp).2 (dp + 1) = cb at *
    generalize tval r f (chA ty x dp).1 (chA ty x dp).2 (dp + 1) = va at *
    generalize tval r f (chB ty x dp).1 (chB ty x dp).2 (dp + 1) = vb at *
    have hlt : st.length < 64 := by omega
    by_cases h0 : k = 0
    · subst h0
      show runL r [nI nm] st = some (nI nm :: st)
      have n1 : ¬ nI nm < 0 := nI_nn hnm
      have n2 : ¬ isOr (nI nm) = true := by
        unfold isOr
        simp only [Bool.or_eq_true, decide_eq_true_eq]
        rintro (h | h | h) <;> exact n1 (by rw [h]; decide)
      rw [run_1]
      unfold stp
      rw [if_neg n2, if_pos n1, if_pos hlt]
    by_cases h7 : k < 7
    · have : k = 1 ∨ k = 2 ∨ k = 3 ∨ k = 4 ∨ k = 5 ∨ k = 6 := by omega
      have e1 : nodeCd k nm ca cb = [cod k] := by
        unfold nodeCd; rw [if_neg h0, if_pos h7]
      have e2 : vnd r k nm va vb = rdV r (cod k) := by
        unfold vnd; rw [if_neg h0, if_pos h7]
      rw [e1, e2, run_1]
      unfold stp
      have q : ¬ isOr (cod k) = true ∧ ¬ ¬ cod k < 0 ∧ isRd (cod k) = true := by
        rcases this with rfl | rfl | rfl | rfl | rfl | rfl <;> decide
      rw [if_neg q.1, if_neg q.2.1, if_pos q.2.2, if_pos hlt]
    have h7' : 7 ≤ k := by omega
    have RA := Ra h7' st (by omega)
    by_cases e7 : k = 7
    · subst e7
      show runL r (ca ++ [-22]) st = some (hgV r va :: st)
      rw [runL_app, RA]
      show runL r [-22] (va :: st) = _
      rw [run_1]
      unfold stp
      rw [if_neg (by decide), if_neg (by decide), if_neg (by decide), if_pos rfl]
    by_cases e8 : k = 8
    · subst e8
      show runL r (ca ++ [-24]) st = some (-va :: st)
      rw [runL_app, RA]
      show runL r [-24] (va :: st) = _
      rw [run_1]
      unfold stp
      rw [if_neg (by decide), if_neg (by decide), if_neg (by decide), if_neg (by decide), if_neg (by decide), if_pos rfl]
    by_cases e26 : k = 26
    · subst e26
      show runL r (ca ++ [-23]) st = some ((1 - va) :: st)
      rw [runL_app, RA]
      show runL r [-23] (va :: st) = _
      rw [run_1]
      unfold stp
      rw [if_neg (by decide), if_neg (by decide), if_neg (by decide), if_neg (by decide), if_pos rfl]
      rcases ba (ht (Or.inl rfl)).2.1 with e | e
      · rw [e]
        rfl
      · rw [e]
        rfl
    have RB := Rb h7' (va :: st) (by rw [List.length_cons]; omega)
    have hk' : k = 9 ∨ k = 10 ∨ k = 11 ∨ k = 12 ∨ k = 13 ∨ k = 14 ∨ k = 20 ∨ k = 21 ∨ k = 22 ∨ k = 23 ∨ k = 24 ∨ k = 27 ∨ k = 28 := by omega
    have e1 : nodeCd k nm ca cb = ca ++ (cb ++ [cod k]) := by
      unfold nodeCd
      rw [if_neg h0, if_neg h7, if_neg (by omega), if_neg e26]
    have e2 : vnd r k nm va vb = rck (cod k) va vb := by
      unfold vnd
      rw [if_neg h0, if_neg h7, if_neg e7, if_neg e8, if_neg e26]
    rw [e1, e2, runL_app, RA]
    show runL r (cb ++ [cod k]) (va :: st) = _
    rw [runL_app, RB]
    show runL r [cod k] (vb :: va :: st) = _
    rw [run_1]
    unfold stp
    have q : ¬ isOr (cod k) = true ∧ ¬ ¬ cod k < 0 ∧ ¬ isRd (cod k) = true ∧ ¬ cod k = -22 ∧ ¬ cod k = -23 ∧ ¬ cod k = -24 ∧ ¬ (cod k < -37 ∨ (-25 : Int32) < cod k) := by
      rcases hk' with rfl | rfl | rfl | rfl | rfl | rfl | rfl | rfl | rfl | rfl | rfl | rfl | rfl <;> decide
    obtain ⟨q1, q2, q3, q4, q5, q6, q7⟩ := q
    rw [if_neg q1, if_neg q2, if_neg q3, if_neg q4, if_neg q5, if_neg q6]
    refine if_neg (fun z => ?_)
    rcases z with ⟨z1, z2⟩ | z
    · have h27 : k = 27 ∨ k = 28 := by
        rcases hk' with rfl | rfl | rfl | rfl | rfl | rfl | rfl | rfl | rfl | rfl | rfl | rfl | rfl <;> first | exact Or.inl rfl | exact Or.inr rfl | (revert z1; decide)
      have := ht (Or.inr h27)
      exact z2 ⟨ba this.2.1, bb this.2.2⟩
    · exact q7 z
theorem evL_cd {r : RC} {f : Nat} {ty : Bool} {x : Int32} {dp : Nat} (hdp : 1 ≤ dp) (hf : fuelOK f ty dp) (h64 : f ≤ 64) : evL r (cdF f ty x dp) = tval r f ty x dp := by
  unfold evL
  rw [run_cd r f ty x dp [] hdp hf (by simpa using h64)]
/-- an order's tokens, and its line -/
def lnTa (x : Int32) : List Int32 := if wdO x = -15 then [] else tkF 3 false (x >>> 3) 1
def lnTw (x : Int32) : List Int32 := if blw (x >>> 7) 2 = 0 then [] else -6 :: tkF 3 true (x >>> 2) 1
def lnT (x : Int32) : List Int32 := wdO x :: (lnTa x ++ ((-4 : Int32) :: (tkF 3 false (x >>> 4) 2 ++ ((-5 : Int32) :: (tkF 3 false (x >>> 6) (blw (x >>> 5) 2 + 1) ++ (lnTw x ++ [-11]))))))
def lnV (p : Nat) (x : Int32) : LN := (p, wdO x, (if wdO x = -15 then [] else cdF 3 false (x >>> 3) 1), cdF 3 false (x >>> 4) 2, cdF 3 false (x >>> 6) (blw (x >>> 5) 2 + 1), if blw (x >>> 7) 2 = 0 then none else some (cdF 3 true (x >>> 2) 1))
theorem lnV_X (p : Nat) (x : Int32) : LNX (lnV p x) x := by
  have hb := blw_lt (v := x >>> 5) (n := 2) (by omega)
  refine ⟨rfl, fun r => ?_, fun r => ?_, fun r => ?_, fun r => ?_⟩
  · show evL r (if wdO x = -15 then [0] else (if wdO x = -15 then [] else cdF 3 false (x >>> 3) 1)) = _
    by_cases h : wdO x = -15
    · rw [if_pos h, if_pos h]
      rfl
    · rw [if_neg h, if_neg h, if_neg h]
      exact evL_cd (by omega) (by unfold fuelOK; decide) (by omega)
  · exact evL_cd (by omega) (by unfold fuelOK; decide) (by omega)
  · refine evL_cd (by omega) ?_ (by omega)
    unfold fuelOK
    rw [if_neg Bool.false_ne_true]
    split <;> omega
  · show evL r ((if blw (x >>> 7) 2 = 0 then none else some (cdF 3 true (x >>> 2) 1)).getD [1]) = _
    by_cases h : blw (x >>> 7) 2 = 0
    · rw [if_pos h, if_pos h]
      rfl
    · rw [if_neg h, if_neg h]
      exact evL_cd (by omega) (by unfold fuelOK; decide) (by omega)
theorem pbb_ok {α β : Type} {x : Option α × Nat} {f : α → Nat → Option β × Nat} {a : α} {q : Nat} (h : x = (some a, q)) : pbb x f = f a q := by
  rw [pbb_s (a := a) (by rw [h]), h]
theorem pln_ok {T : Nat → Int32} {p : Nat} {x : Int32} (h : At T p (lnT x)) : pln T p = (some (lnV p x), p + (lnT x).length) := by
  have hb := blw_lt (v := x >>> 5) (n := 2) (by omega)
  have S1 := prs_sum (T := T) 3 9 (x >>> 3) 1 (p + 1) (by omega) (by decide) (by omega)
  have S2 := fun p' => prs_sum (T := T) 3 9 (x >>> 4) 2 p' (by omega) (by decide) (by omega)
  have S3 := fun p' => prs_sum (T := T) 3 9 (x >>> 6) (blw (x >>> 5) 2 + 1) p' (by omega) (by split <;> omega) (by omega)
  have S4 := fun p' => prs_tst (T := T) 3 9 (x >>> 2) 1 p' (by omega) (by decide) (by omega)
  unfold lnT at h ⊢
  unfold lnV
  have ea : lnTa x = if wdO x = -15 then [] else tkF 3 false (x >>> 3) 1 := rfl
  have ew : lnTw x = if blw (x >>> 7) 2 = 0 then [] else -6 :: tkF 3 true (x >>> 2) 1 := rfl
  generalize tkF 3 false (x >>> 3) 1 = a1 at *
  generalize tkF 3 false (x >>> 4) 2 = a2 at *
  generalize tkF 3 false (x >>> 6) (blw (x >>> 5) 2 + 1) = a3 at *
  generalize tkF 3 true (x >>> 2) 1 = a4 at *
  generalize cdF 3 false (x >>> 3) 1 = c1 at *
  generalize cdF 3 false (x >>> 4) 2 = c2 at *
  generalize cdF 3 false (x >>> 6) (blw (x >>> 5) 2 + 1) = c3 at *
  generalize cdF 3 true (x >>> 2) 1 = c4 at *
  generalize lnTa x = la at *
  generalize lnTw x = lw at *
  obtain ⟨t0, h⟩ := h.cons
  obtain ⟨A1, h⟩ := h.app
  obtain ⟨t1, h⟩ := h.cons
  obtain ⟨A2, h⟩ := h.app
  obtain ⟨t2, h⟩ := h.cons
  obtain ⟨A3, h⟩ := h.app
  obtain ⟨A4, h⟩ := h.app
  obtain ⟨t3, -⟩ := h.cons
  have st4 : isStop (-4) = true := by decide
  have st5 : isStop (-5) = true := by decide
  have st6 : isStop (-6) = true := by decide
  have st11 : isStop (-11) = true := by decide
  unfold pln
  have g1 : (if T p = -15 then ((some [] : Option (List Int32)), p + 1) else sumP T (p + 1)) = (some (if wdO x = -15 then [] else c1), p + 1 + la.length) := by
    rw [t0]
    by_cases e : wdO x = -15
    · rw [if_pos e] at ea
      rw [if_pos e, if_pos e, ea]
      rfl
    · rw [if_neg e] at ea
      rw [if_neg e, if_neg e, ea]
      rw [ea] at A1 t1
      exact S1 A1 (by rw [t1]; exact st4)
  have g5 : sumP T (p + 1 + la.length + 1) = (some c2, p + 1 + la.length + 1 + a2.length) := S2 _ A2 (by rw [t2]; exact st5)
  rw [pbb_ok g1, pbb_ok (ptk_ok t1), pbb_ok g5, pbb_ok (ptk_ok t2)]
  by_cases h7 : blw (x >>> 7) 2 = 0
  · rw [if_pos h7] at ew
    subst ew
    rw [List.length_nil, Nat.add_zero] at t3
    have g6 : sumP T (p + 1 + la.length + 1 + a2.length + 1) = (some c3, p + 1 + la.length + 1 + a2.length + 1 + a3.length) := S3 _ A3 (by rw [t3]; exact st11)
    rw [pbb_ok g6]
    have g7 : (if T (p + 1 + la.length + 1 + a2.length + 1 + a3.length) = -6 then ((tstP T (p + 1 + la.length + 1 + a2.length + 1 + a3.length + 1)).1.map some, (tstP T (p + 1 + la.length + 1 + a2.length + 1 + a3.length + 1)).2) else (some (none : Option (List Int32)), p + 1 + la.length + 1 + a2.length + 1 + a3.length)) = (some none, p + 1 + la.length + 1 + a2.length + 1 + a3.length) := if_neg (by rw [t3]; decide)
    rw [pbb_ok g7, pbb_ok (ptk_ok t3), if_pos h7, t0]
    refine congrArg (Prod.mk _) ?_
    simp only [List.length_append, List.length_cons, List.length_nil]
    omega
  · rw [if_neg h7] at ew
    subst ew
    obtain ⟨t6, A4⟩ := A4.cons
    rw [List.length_cons] at t3
    have g6 : sumP T (p + 1 + la.length + 1 + a2.length + 1) = (some c3, p + 1 + la.length + 1 + a2.length + 1 + a3.length) := S3 _ A3 (by rw [t6]; exact st6)
    rw [pbb_ok g6]
    have t3' : T (p + 1 + la.length + 1 + a2.length + 1 + a3.length + 1 + a4.length) = -11 := by
      rw [← t3]
      refine congrArg T ?_
      omega
    have g8 : tstP T (p + 1 + la.length + 1 + a2.length + 1 + a3.length + 1) = (some c4, p + 1 + la.length + 1 + a2.length + 1 + a3.length + 1 + a4.length) := S4 _ A4 (by rw [t3']; exact st11)
    have g7 : (if T (p + 1 + la.length + 1 + a2.length + 1 + a3.length) = -6 then ((tstP T (p + 1 + la.length + 1 + a2.length + 1 + a3.length + 1)).1.map some, (tstP T (p + 1 + la.length + 1 + a2.length + 1 + a3.length + 1)).2) else (some (none : Option (List Int32)), p + 1 + la.length + 1 + a2.length + 1 + a3.length)) = (some (some c4), p + 1 + la.length + 1 + a2.length + 1 + a3.length + 1 + a4.length) := by
      rw [if_pos t6, g8]
      rfl
    rw [pbb_ok g7, pbb_ok (ptk_ok t3'), if_neg h7, t0]
    refine congrArg (Prod.mk _) ?_
    simp only [List.length_append, List.length_cons, List.length_nil]
    omega
theorem wdO_or (x : Int32) : isOr (wdO x) = true := by
  rcases wd_ok x with ⟨-, h⟩ | ⟨-, h⟩ | ⟨-, h⟩ <;> rw [h] <;> decide
/-- all lines -/
def lnsT : List Int32 → List Int32
  | [] => []
  | x :: xs => lnT x ++ lnsT xs
theorem plns_ok {T : Nat → Int32} : ∀ (xs : List Int32) (k p : Nat), xs.length < k → At T p (lnsT xs ++ [-1]) → ∃ l : List LN, plns T k p = (some l, p + (lnsT xs).length) ∧ l.length = xs.length ∧ ∀ (i : Nat) (ln : LN) (x : Int32), l[i]? = some ln → xs[i]? = some x → LNX ln x
  | [], k, p, hk, h => by
    obtain ⟨k, rfl⟩ : ∃ j, k = j + 1 := ⟨k - 1, by simp at hk; omega⟩
    obtain ⟨t, -⟩ := At.cons (l := []) h
    refine ⟨[], ?_, rfl, fun i ln x hi => by simp at hi⟩
    rw [plns, t, if_neg (by decide)]
    rfl
  | x :: xs, k, p, hk, h => by
    rw [List.length_cons] at hk
    obtain ⟨k, rfl⟩ : ∃ j, k = j + 1 := ⟨k - 1, by omega⟩
    rw [lnsT, List.append_assoc] at h
    obtain ⟨h1, h2⟩ := h.app
    obtain ⟨l, l1, l2, l3⟩ := plns_ok xs k _ (by omega) h2
    have hp := pln_ok h1
    have t0 : T p = wdO x := (At.cons (l := lnTa x ++ ((-4 : Int32) :: (tkF 3 false (x >>> 4) 2 ++ ((-5 : Int32) :: (tkF 3 false (x >>> 6) (blw (x >>> 5) 2 + 1) ++ (lnTw x ++ [-11])))))) h1).1
    refine ⟨lnV p x :: l, ?_, by rw [List.length_cons, List.length_cons, l2], fun i ln y hi hy => ?_⟩
    · rw [plns, t0, if_pos (wdO_or x), pbb_ok hp, pbb_ok l1, lnsT, List.length_append, Nat.add_assoc]
    · cases i with
      | zero =>
        have e1 : lnV p x = ln := by simpa using hi
        have e2 : x = y := by simpa using hy
        rw [← e1, ← e2]
        exact lnV_X p x
      | succ i =>
        rw [List.getElem?_cons_succ] at hi hy
        exact l3 i ln y hi hy
/-- the head of a text: none, or the number of terraces -/
def hdT (n : Option Nat) : List Int32 := match n with
  | none => []
  | some N => [-3, nI N, -11]
theorem pva_ok {T : Nat → Int32} {n : Option Nat} {xs : List Int32} (hn : ∀ N, n = some N → N < 1000000) (hx : xs.length ≤ 4) (h : At T 0 (hdT n ++ (lnsT xs ++ [-1]))) : ∃ l : List LN, (pva T).1 = some (n.map nI, l) ∧ l.length = xs.length ∧ ∀ (i : Nat) (ln : LN) (x : Int32), l[i]? = some ln → xs[i]? = some x → LNX ln x := by
  obtain ⟨h1, h2⟩ := h.app
  rw [Nat.zero_add] at h2
  obtain ⟨l, l1, l2, l3⟩ := plns_ok xs 400 _ (by omega) h2
  obtain ⟨-, h3⟩ := h2.app
  obtain ⟨te, -⟩ := h3.cons
  have hd : phd T = (some (n.map nI), (hdT n).length) := by
    unfold phd
    cases n with
    | none =>
      have t0 : ¬ T 0 = -3 := by
        cases xs with
        | nil =>
          have : T 0 = -1 := (At.cons (l := []) h2).1
          rw [this]
          decide
        | cons x xs =>
          rw [lnsT, List.append_assoc] at h2
          have t0 : T 0 = wdO x := (At.cons (l := lnTa x ++ ((-4 : Int32) :: (tkF 3 false (x >>> 4) 2 ++ ((-5 : Int32) :: (tkF 3 false (x >>> 6) (blw (x >>> 5) 2 + 1) ++ (lnTw x ++ [-11])))))) h2.app.1).1
          rw [t0]
          rcases wd_ok x with ⟨-, h⟩ | ⟨-, h⟩ | ⟨-, h⟩ <;> rw [h] <;> decide
      rw [if_neg t0]
      rfl
    | some N =>
      obtain ⟨t0, h1⟩ := At.cons (l := [nI N, -11]) h1
      obtain ⟨t1, h1⟩ := At.cons (l := [-11]) h1
      obtain ⟨t2, -⟩ := At.cons (l := []) h1
      have t1' : T 1 = nI N := t1
      have t2' : T 2 = -11 := t2
      rw [if_pos t0, t1', if_neg (nI_nn (hn N rfl)), if_pos t2']
      rfl
  refine ⟨l, ?_, l2, l3⟩
  unfold pva
  rw [pbb_ok hd, pbb_ok l1]
  rw [if_pos te]
