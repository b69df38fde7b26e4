/-! the law's trees as tokens; read back -/
def nodeTk (k nm : Nat) (a b : List Int32) : List Int32 := if k = 0 then [nI nm] else if k < 7 then [cod k] else if k = 7 then -22 :: -7 :: (a ++ [-8]) else if k = 8 then -30 :: -7 :: (a ++ [-8]) else if k < 13 then -7 :: (a ++ (-8 :: cod k :: -7 :: (b ++ [-8]))) else if k < 15 then cod k :: -7 :: (a ++ (-12 :: (b ++ [-8]))) else if k < 25 then a ++ (cod k :: b) else if k = 26 then -23 :: -9 :: (a ++ [-10]) else -9 :: (a ++ (-10 :: cod k :: -9 :: (b ++ [-10])))
def nodeCd (k nm : Nat) (a b : List Int32) : List Int32 := if k = 0 then [nI nm] else if k < 7 then [cod k] else if k < 9 then a ++ [cod k] else if k = 26 then a ++ [cod k] else a ++ (b ++ [cod k])
def tkF (f : Nat) (ty : Bool) (x : Int32) (dp : Nat) : List Int32 := fld nodeTk [] f ty x dp
def cdF (f : Nat) (ty : Bool) (x : Int32) (dp : Nat) : List Int32 := fld nodeCd [] f ty x dp
theorem tkF_s (f : Nat) (ty : Bool) (x : Int32) (dp : Nat) : tkF (f + 1) ty x dp = nodeTk (kdG ty x dp) (nmG ty x) (tkF f (chA ty x dp).1 (chA ty x dp).2 (dp + 1)) (tkF f (chB ty x dp).1 (chB ty x dp).2 (dp + 1)) := rfl
theorem cdF_s (f : Nat) (ty : Bool) (x : Int32) (dp : Nat) : cdF (f + 1) ty x dp = nodeCd (kdG ty x dp) (nmG ty x) (cdF f (chA ty x dp).1 (chA ty x dp).2 (dp + 1)) (cdF f (chB ty x dp).1 (chB ty x dp).2 (dp + 1)) := rfl
def At (T : Nat → Int32) (p : Nat) (l : List Int32) : Prop := ∀ i t, l[i]? = some t → T (p + i) = t
theorem At.cons {T : Nat → Int32} {p : Nat} {t : Int32} {l : List Int32} (h : At T p (t :: l)) : T p = t ∧ At T (p + 1) l := by
  refine ⟨h 0 t rfl, fun i u hu => ?_⟩
  have := h (i + 1) u (by rw [List.getElem?_cons_succ]; exact hu)
  rw [show p + 1 + i = p + (i + 1) by omega]
  exact this
theorem At.app {T : Nat → Int32} {p : Nat} {a b : List Int32} (h : At T p (a ++ b)) : At T p a ∧ At T (p + a.length) b := by
  refine ⟨fun i t ht => h i t ?_, fun i t ht => ?_⟩
  · rw [List.getElem?_append_left (by
      rw [List.getElem?_eq_some_iff] at ht
      exact ht.1)]
    exact ht
  · have := h (a.length + i) t (by
      rw [List.getElem?_append_right (by omega), show a.length + i - a.length = i by omega]
      exact ht)
    rw [Nat.add_assoc]
    exact this
def isStop (t : Int32) : Bool := decide (t = -4) || decide (t = -5) || decide (t = -6) || decide (t = -8) || decide (t = -10) || decide (t = -11) || decide (t = -12) || decide (t = -33) || decide (t = -34) || decide (t = -35) || decide (t = -36) || decide (t = -37)
theorem stop_jn {t : Int32} (h : isStop t = true) (κ : Nat) : jn κ t = false := by
  unfold isStop at h
  simp only [Bool.or_eq_true, decide_eq_true_eq] at h
  have e : ∀ u : Int32, (jn 0 u = false ∧ jn 1 u = false ∧ jn 2 u = false ∧ jn 3 u = false) → jn κ u = false := fun u hu => by
    match κ with
    | 0 => exact hu.1
    | 1 => exact hu.2.1
    | 2 => exact hu.2.2.1
    | k + 3 => exact hu.2.2.2
  rcases h with ((((((((((h | h) | h) | h) | h) | h) | h) | h) | h) | h) | h) | h <;> rw [h] <;> exact e _ (by decide)
theorem pchn_0 {T : Nat → Int32} {part : Nat → PR} {join : Int32 → Bool} {p q : Nat} {c : List Int32} (h : part p = (some c, q)) (hj : join (T q) = false) : pchn T part join p = (some c, q) := by
  unfold pchn
  rw [pb_s (L := c) (by rw [h]), h]
  show ((pch T part join 400 q).1.map _, (pch T part join 400 q).2) = _
  rw [show (400 : Nat) = 399 + 1 from rfl, pch, hj, if_neg Bool.false_ne_true]
  show (some (c ++ []), q) = _
  rw [List.append_nil]
theorem pchn_1 {T : Nat → Int32} {part : Nat → PR} {join : Int32 → Bool} {p q q' : Nat} {c c' : List Int32} (h : part p = (some c, q)) (hj : join (T q) = true) (h' : part (q + 1) = (some c', q')) (hj' : join (T q') = false) : pchn T part join p = (some (c ++ (c' ++ [T q])), q') := by
  unfold pchn
  rw [pb_s (L := c) (by rw [h]), h]
  show ((pch T part join 400 q).1.map _, (pch T part join 400 q).2) = _
  have e : pch T part join 400 q = (some (c' ++ [T q]), q') := by
    rw [show (400 : Nat) = 398 + 1 + 1 from rfl, pch, hj, if_pos rfl, pb_s (L := c') (by rw [h']), h']
    show ((pb (pem (T q) q') (fun q => pch T part join (398 + 1) q)).1.map _, (pb (pem (T q) q') (fun q => pch T part join (398 + 1) q)).2) = _
    have e2 : pb (pem (T q) q') (fun q => pch T part join (398 + 1) q) = (some [T q], q') := by
      rw [pb_s (L := [T q]) rfl]
      show ((pch T part join (398 + 1) q').1.map _, (pch T part join (398 + 1) q').2) = _
      rw [pch, hj', if_neg Bool.false_ne_true]
      rfl
    rw [e2]
    rfl
  rw [e]
  rfl
theorem sum_0 {T : Nat → Int32} {v : Nat → PR} {p q : Nat} {c : List Int32} (h : v p = (some c, q)) (hs : isStop (T q) = true) : pchn T (pchn T v (jn 3)) (jn 2) p = (some c, q) := pchn_0 (pchn_0 h (stop_jn hs 3)) (stop_jn hs 2)
theorem tst_0 {T : Nat → Int32} {v : Nat → PR} {p q : Nat} {c : List Int32} (h : v p = (some c, q)) (hs : isStop (T q) = true) : pchn T (pchn T v (jn 1)) (jn 0) p = (some c, q) := pchn_0 (pchn_0 h (stop_jn hs 1)) (stop_jn hs 0)
theorem sum_1 {T : Nat → Int32} {v : Nat → PR} {p q q' : Nat} {c c' : List Int32} {t : Int32} (h : v p = (some c, q)) (ht : T q = t) (hop : t = -29 ∨ t = -30 ∨ t = -31 ∨ t = -32) (h' : v (q + 1) = (some c', q')) (hs : isStop (T q') = true) : pchn T (pchn T v (jn 3)) (jn 2) p = (some (c ++ (c' ++ [t])), q') := by
  have k3 := stop_jn hs 3
  have k2 := stop_jn hs 2
  rw [← ht]
  rcases hop with e | e | e | e <;> rw [e] at ht
  · exact pchn_1 (pchn_0 h (by rw [ht]; decide)) (by rw [ht]; decide) (pchn_0 h' k3) k2
  · exact pchn_1 (pchn_0 h (by rw [ht]; decide)) (by rw [ht]; decide) (pchn_0 h' k3) k2
  · exact pchn_0 (pchn_1 h (by rw [ht]; decide) h' k3) k2
  · exact pchn_0 (pchn_1 h (by rw [ht]; decide) h' k3) k2
theorem tst_1 {T : Nat → Int32} {v : Nat → PR} {p q q' : Nat} {c c' : List Int32} {t : Int32} (h : v p = (some c, q)) (ht : T q = t) (hop : t = -25 ∨ t = -26) (h' : v (q + 1) = (some c', q')) (hs : isStop (T q') = true) : pchn T (pchn T v (jn 1)) (jn 0) p = (some (c ++ (c' ++ [t])), q') := by
  have k1 := stop_jn hs 1
  have k0 := stop_jn hs 0
  rw [← ht]
  rcases hop with e | e <;> rw [e] at ht
  · exact pchn_0 (pchn_1 h (by rw [ht]; decide) h' k1) k0
  · exact pchn_1 (pchn_0 h (by rw [ht]; decide)) (by rw [ht]; decide) (pchn_0 h' k1) k0
theorem ptk_ok {T : Nat → Int32} {c : Int32} {q : Nat} (h : T q = c) : ptk T c q = (some [], q + 1) := by
  unfold ptk
  rw [if_pos h]
theorem pb_ok {X : PR} {F : Nat → PR} {L M : List Int32} {q r : Nat} (h : X = (some L, q)) (h' : F q = (some M, r)) : pb X F = (some (L ++ M), r) := by
  rw [pb_s (L := L) (by rw [h]), h]
  show ((F q).1.map _, (F q).2) = _
  rw [h']
  rfl
theorem pbr_1 {T : Nat → Int32} {ps : Nat → PR} {p q : Nat} {c : List Int32} (h : T p = -7) (h' : ps (p + 1) = (some c, q)) (h8 : T q = -8) : pbr T ps 1 p = (some c, q + 1) := by
  unfold pbr
  rw [if_pos h, if_neg (by decide), pb_ok h' (ptk_ok h8), List.append_nil]
theorem pbr_2 {T : Nat → Int32} {ps : Nat → PR} {p q q' : Nat} {c c' : List Int32} (h : T p = -7) (h' : ps (p + 1) = (some c, q)) (hc : T q = -12) (h2 : ps (q + 1) = (some c', q')) (h8 : T q' = -8) : pbr T ps 2 p = (some (c ++ c'), q' + 1) := by
  unfold pbr
  rw [if_pos h, if_pos rfl, pb_ok h' (pb_ok (ptk_ok hc) (pb_ok h2 (ptk_ok h8))), List.append_nil, List.nil_append]
theorem pval_1 {T : Nat → Int32} {pv ps : Nat → PR} {p : Nat} (h : ¬ T p < 0 ∨ isRd (T p) = true) : pval T pv ps p = (some [T p], p + 1) := by
  unfold pval
  rw [if_pos (by rw [Bool.or_eq_true, decide_eq_true_eq]; exact h)]
theorem pval_br {T : Nat → Int32} {pv ps : Nat → PR} {p q : Nat} {c : List Int32} (h : T p = -7) (h' : ps (p + 1) = (some c, q)) (h8 : T q = -8) : pval T pv ps p = (some c, q + 1) := by
  unfold pval
  rw [h, if_neg (by decide), if_neg (by decide), if_pos rfl]
  exact pbr_1 h h' h8
theorem pval_ng {T : Nat → Int32} {pv ps : Nat → PR} {p q : Nat} {c : List Int32} (h : T p = -30) (h' : pv (p + 1) = (some c, q)) : pval T pv ps p = (some (c ++ [-24]), q) := by
  unfold pval
  rw [h, if_neg (by decide), if_pos rfl]
  exact pb_ok h' rfl
theorem pval_ht {T : Nat → Int32} {pv ps : Nat → PR} {p q : Nat} {c : List Int32} (h : T p = -22) (h7 : T (p + 1) = -7) (h' : ps (p + 1 + 1) = (some c, q)) (h8 : T q = -8) : pval T pv ps p = (some (c ++ [-22]), q + 1) := by
  unfold pval
  rw [h, if_neg (by decide), if_neg (by decide), if_neg (by decide), if_pos rfl]
  exact pb_ok (pbr_1 h7 h' h8) rfl
theorem pval_mm {T : Nat → Int32} {pv ps : Nat → PR} {p q q' : Nat} {c c' : List Int32} {t : Int32} (h : T p = t) (ht : t = -27 ∨ t = -28) (h7 : T (p + 1) = -7) (h' : ps (p + 1 + 1) = (some c, q)) (hc : T q = -12) (h2 : ps (q + 1) = (some c', q')) (h8 : T q' = -8) : pval T pv ps p = (some (c ++ (c' ++ [t])), q' + 1) := by
  unfold pval
  rw [h]
  rcases ht with rfl | rfl
  · rw [if_neg (by decide), if_neg (by decide), if_neg (by decide), if_neg (by decide), if_pos (Or.inl rfl), ← List.append_assoc]
    exact pb_ok (pbr_2 h7 h' hc h2 h8) rfl
  · rw [if_neg (by decide), if_neg (by decide), if_neg (by decide), if_neg (by decide), if_pos (Or.inr rfl), ← List.append_assoc]
    exact pb_ok (pbr_2 h7 h' hc h2 h8) rfl
theorem psg_nt {T : Nat → Int32} {sm pg pt : Nat → PR} {p q : Nat} {c : List Int32} (h : T p = -23) (h' : pg (p + 1) = (some c, q)) : psg T sm pg pt p = (some (c ++ [-23]), q) := by
  unfold psg
  rw [if_pos h]
  exact pb_ok h' rfl
theorem psg_br {T : Nat → Int32} {sm pg pt : Nat → PR} {p q : Nat} {c : List Int32} (h : T p = -9) (h' : pt (p + 1) = (some c, q)) (h8 : T q = -10) : psg T sm pg pt p = (some c, q + 1) := by
  unfold psg
  rw [h, if_neg (by decide), if_pos rfl, pb_ok h' (ptk_ok h8), List.append_nil]
theorem psg_cm {T : Nat → Int32} {sm pg pt : Nat → PR} {p q q' : Nat} {c c' : List Int32} {t : Int32} (h1 : ¬ T p = -23) (h2 : ¬ T p = -9) (h' : sm p = (some c, q)) (ht : T q = t) (hc : isCmp t = true) (h3 : sm (q + 1) = (some c', q')) : psg T sm pg pt p = (some (c ++ (c' ++ [t])), q') := by
  unfold psg
  rw [if_neg h1, if_neg h2]
  refine pb_ok h' ?_
  show (if isCmp (T q) = true then pb (sm (q + 1)) (pem (T q)) else (none, q)) = _
  rw [ht, if_pos hc]
  exact pb_ok h3 rfl
