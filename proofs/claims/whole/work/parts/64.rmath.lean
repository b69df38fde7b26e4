/-! single branches; what waits over a terrace, counted both ways -/
theorem VS_op {N b : Nat} {V : Val} (h : VS N V) : VS N (opV N b V) := by
  intro a ha ha' hi
  have e := h a ha ha' hi
  unfold opV
  split
  · rename_i hb
    subst hb
    exact e
  · split
    · unfold chl tkR
      split
      · show (V a).2.1 + _ = (V a).2.2.1 + _
        rw [e]
      · rfl
    · exact e
theorem VS_te {N b : Nat} {V : Val} (h : VS N V) (hb : gIn N b = true) : VS N (teV b V) := by
  intro a ha ha' hi
  unfold teV
  split
  · rename_i e
    rw [e, hb] at hi
    cases hi
  · exact h a ha ha' hi
theorem VS_rc {N b : Nat} {V : Val} {o x : Int32} (h : VS N V) : VS N (rcV N o x b V) := by
  intro a ha ha' hi
  have e := h a ha ha' hi
  unfold rcV
  split
  · rename_i hb
    subst hb
    split
    · show (V a).2.1 + _ = (V a).2.2.1 + _
      rw [e]
    · split
      · rfl
      · exact e
  · exact e
theorem VS_opS {N b : Nat} {S : GS} (h : VS N S.1) : VS N (opS N b S).1 := by
  unfold opS
  split
  · exact VS_op h
  · exact h
theorem VS_dn {N : Nat} {o x f t : Int32} : ∀ (k b : Nat) (S : GS), VS N S.1 → VS N (dn N o x f t k b S).1
  | 0, b, S, h => h
  | k + 1, b, S, h => by
    rw [dn]
    split
    · exact VS_rc h
    · split
      · exact h
      · rename_i hi
        have h1 : VS N (opS N b S).1 := VS_opS h
        have hA : VS N (if tch N f t (2 * b) = true then dn N o x f t k (2 * b) (opS N b S) else opS N b S).1 := by
          split
          · exact VS_dn k _ _ h1
          · exact h1
        refine VS_te ?_ (by simpa using hi)
        show VS N (if tch N f t (2 * b + 1) = true then dn N o x f t k (2 * b + 1) _ else _).1
        split
        · exact VS_dn k _ _ hA
        · exact hA
theorem VS_go {N : Nat} {o x f t : Int32} {S : GS} (h : VS N S.1) : VS N (goS N o x f t S).1 := VS_dn 6 1 _ h
theorem VS_ff {N : Nat} {t : Int32} : ∀ (k b : Nat) (S : GS), VS N S.1 → VS N (ff N t k b S).2.1
  | 0, b, S, h => h
  | k + 1, b, S, h => by
    rw [ff]
    split
    · exact VS_ff k _ _ (VS_opS h)
    · exact h
theorem VS_ffS {N : Nat} {t : Int32} {S : GS} (h : VS N S.1) : VS N (ffS N t S).2.1 := by
  unfold ffS
  split
  · exact h
  · exact VS_ff 6 1 S h
theorem VS_oE {N : Nat} : ∀ (k : Nat) (S : GS), VS N S.1 → VS N (oE N k S).1
  | 0, S, h => h
  | k + 1, S, h => by
    rw [oE]
    split
    · exact VS_opS (VS_oE k S h)
    · exact VS_oE k S h
theorem VS_ord {N : Nat} {o a f g w : Int32} {S : GS} (h : VS N S.1) : VS N (ordS N o a f g w S).1 := by
  unfold ordS
  split
  · exact h
  · exact VS_go h
theorem VS_lines {N : Nat} {days : Int32} : ∀ (l : List LN) (S : GS), VS N S.1 → VS N (l.foldl (lnE N days) S).1
  | [], S, h => h
  | ln :: l, S, h => VS_lines l _ (VS_ord h)
theorem VS_days {N : Nat} {l : List LN} : ∀ (k : Nat) (x : GS × Int32), VS N x.1.1 → VS N (daysS N l k x).1.1
  | 0, x, h => h
  | k + 1, x, h => VS_days k _ (VS_lines l x.1 h)
theorem VS_zero {N : Nat} : VS N zV := fun b _ _ _ => rfl
def pthL (N : Nat) (t : Int32) : Nat → Nat → List Nat
  | 0, b => [b]
  | k + 1, b => if gIn N b = true then b :: pthL N t k (chd N t b) else [b]
theorem ovp_L {N : Nat} {w : Nat → Bool} {t : Int32} : ∀ (k b : Nat) (a : Int32), (pthL N t k b).foldl (fun a b => a + (if w b = true then 1 else 0)) a = a + ovp N w t k b
  | 0, b, a => rfl
  | k + 1, b, a => by
    rw [pthL, ovp]
    split
    · rw [List.foldl_cons, ovp_L k, Int32.add_assoc, Int32.add_comm (ovp N w t k (chd N t b))]
    · rfl
theorem accI_L {q w : Nat → Bool} : ∀ k, accI (fun b => q b && w b) k = ((List.range k).filter q).foldl (fun a b => a + (if w b = true then 1 else 0)) 0
  | 0 => rfl
  | k + 1 => by
    rw [accI, accI_L k, List.range_succ, List.filter_append, List.foldl_append]
    by_cases h : q k = true
    · have : List.filter q [k] = [k] := by simp [h]
      rw [this, h, Bool.true_and]
      rfl
    · have : List.filter q [k] = [] := by simp [h]
      rw [this]
      have hf : q k = false := by simpa using h
      rw [hf, Bool.false_and]
      show _ + 0 = _
      rw [Int32.add_zero]
      rfl
theorem pth_flt : (List.range 33).all (fun N => decide (N < 2) || (List.range N).all (fun t => decide ((List.range 64).filter (fun b => decide (1 ≤ b) && (gEx N b && tch N (nI t) (nI t) b)) = pthL N (nI t) 6 1))) = true := by decide +kernel
theorem ov_eq {N t : Nat} {V : Val} (h2 : 2 ≤ N) (h32 : N ≤ 32) (ht : t < N) : ovC N V (nI t) = ovp N (fun b => wtb (V b)) (nI t) 6 1 := by
  have h0 := List.all_eq_true.mp pth_flt N (List.mem_range.mpr (by omega))
  rw [show decide (N < 2) = false from decide_eq_false (by omega), Bool.false_or] at h0
  have h1 := of_decide_eq_true (List.all_eq_true.mp h0 t (List.mem_range.mpr ht))
  have e : (fun b => decide (1 ≤ b) && (gEx N b && (tch N (nI t) (nI t) b && wtb (V b)))) = (fun b => (decide (1 ≤ b) && (gEx N b && tch N (nI t) (nI t) b)) && wtb (V b)) := by
    funext b
    rw [Bool.and_assoc, Bool.and_assoc]
  unfold ovC
  rw [e, accI_L (q := fun b => decide (1 ≤ b) && (gEx N b && tch N (nI t) (nI t) b)) (w := fun b => wtb (V b)), h1, ovp_L, Int32.zero_add]
