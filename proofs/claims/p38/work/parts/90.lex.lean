/-! bytes cut into tokens -/
def Wd (B : Nat → Nat) (len p : Nat) (w : List Nat) : Prop := ∀ i c, w[i]? = some c → gB B len (p + i) = nI c
theorem Wd.cons {B : Nat → Nat} {len p c : Nat} {w : List Nat} (h : Wd B len p (c :: w)) : gB B len p = nI c ∧ Wd B len (p + 1) w := by
  refine ⟨h 0 c rfl, fun i u hu => ?_⟩
  have := h (i + 1) u (by rw [List.getElem?_cons_succ]; exact hu)
  rw [show p + 1 + i = p + (i + 1) by omega]
  exact this
theorem Wd.app {B : Nat → Nat} {len p : Nat} {a b : List Nat} (h : Wd B len p (a ++ b)) : Wd B len p a ∧ Wd B len (p + a.length) b := by
  refine ⟨fun i t ht => h i t ?_, fun i t ht => ?_⟩
  · rw [List.getElem?_append_left (by
      rw [List.getElem?_eq_some_iff] at ht
      exact ht.1)]
    exact ht
  · have := h (a.length + i) t (by
      rw [List.getElem?_append_right (by omega), show a.length + i - a.length = i by omega]
      exact ht)
    rw [Nat.add_assoc]
    exact this
theorem bbk_fu {B : Nat → Nat} {len : Nat} : ∀ (k p : Nat), len < p + k → bbk (gB B len) (k + 1) p = bbk (gB B len) k p
  | 0, p, h => by
    rw [bbk, bbk, gB_out (by omega), bl_neg, if_neg Bool.false_ne_true]
  | k + 1, p, h => by
    show (if isBl (gB B len p) = true then bbk (gB B len) (k + 1) (p + 1) else p) = (if isBl (gB B len p) = true then bbk (gB B len) k (p + 1) else p)
    rw [bbk_fu k (p + 1) (by omega)]
/-- from a head's place on, tokens, up to another head's place -/
def Lx (B : Nat → Nat) (len : Nat) : List Int32 → Nat → Nat → Prop
  | [], p, q => bbk (gB B len) 2001 p = bbk (gB B len) 2001 q
  | t :: l, p, q => tkV B len (bbk (gB B len) 2001 p) = t ∧ Lx B len l (tkE B len (bbk (gB B len) 2001 p)) q
theorem Lx.mv {B : Nat → Nat} {len : Nat} : ∀ {l : List Int32} {p p' q : Nat}, bbk (gB B len) 2001 p = bbk (gB B len) 2001 p' → Lx B len l p' q → Lx B len l p q
  | [], _, _, _, e, h => e.trans h
  | _ :: _, _, _, _, e, h => by
    unfold Lx at h ⊢
    rw [e]
    exact h
theorem Lx.app {B : Nat → Nat} {len : Nat} : ∀ {a b : List Int32} {p q r : Nat}, Lx B len a p q → Lx B len b q r → Lx B len (a ++ b) p r
  | [], _, _, _, _, h, h' => h'.mv h
  | _ :: _, _, _, _, _, h, h' => ⟨h.1, Lx.app h.2 h'⟩
theorem Lx.nil {B : Nat → Nat} {len p : Nat} : Lx B len [] p p := rfl
theorem Lx.bl {B : Nat → Nat} {len p : Nat} (hl : len ≤ 2000) (h : isBl (gB B len p) = true) : Lx B len [] p (p + 1) := by
  show bbk (gB B len) (2000 + 1) p = bbk (gB B len) (2000 + 1) (p + 1)
  rw [bbk_fu 2000 (p + 1) (by omega), bbk, if_pos h]
theorem bbk_no {B : Nat → Nat} {len p : Nat} (h : isBl (gB B len p) = false) : bbk (gB B len) 2001 p = p := by
  show bbk (gB B len) (2000 + 1) p = p
  rw [bbk, h, if_neg Bool.false_ne_true]
theorem Lx.one {B : Nat → Nat} {len p q : Nat} {t : Int32} (hb : isBl (gB B len p) = false) (hv : tkV B len p = t) (he : tkE B len p = q) : Lx B len [t] p q := by
  unfold Lx
  rw [bbk_no hb, hv, he]
  exact ⟨rfl, rfl⟩
def symOK (c : Nat) (t : Int32) : Bool := decide (¬ nI c < 0) && (!isLe (nI c) && (!isDi (nI c) && (!isBl (nI c) && (decide (¬ nI c = 60) && (decide (¬ nI c = 62) && (decide (symT (nI c) true = t) && decide (symT (nI c) false = t)))))))
theorem Lx.sy {B : Nat → Nat} {len p c : Nat} {t : Int32} (h : gB B len p = nI c) (hc : symOK c t = true) : Lx B len [t] p (p + 1) := by
  unfold symOK at hc
  simp only [Bool.and_eq_true, Bool.not_eq_true', decide_eq_true_eq] at hc
  obtain ⟨h1, h2, h3, h4, h5, h6, h7, h8⟩ := hc
  refine Lx.one (by rw [h]; exact h4) ?_ ?_
  · unfold tkV
    rw [h, if_neg h1, h2, if_neg Bool.false_ne_true, h3, if_neg Bool.false_ne_true]
    cases decide (gB B len (p + 1) = 61)
    · exact h8
    · exact h7
  · unfold tkE
    rw [h, h2, if_neg Bool.false_ne_true, h3, if_neg Bool.false_ne_true, if_neg (fun z => z.1.elim h5 h6)]
theorem Lx.cmp2 {B : Nat → Nat} {len p c : Nat} {t : Int32} (h : gB B len p = nI c) (h61 : gB B len (p + 1) = 61) (hc : (c = 60 ∧ t = -36) ∨ (c = 62 ∧ t = -37)) : Lx B len [t] p (p + 2) := by
  rcases hc with ⟨rfl, rfl⟩ | ⟨rfl, rfl⟩
  · refine Lx.one (by rw [h]; decide) ?_ ?_
    · unfold tkV
      rw [h, h61, if_neg (by decide), if_neg (by decide), if_neg (by decide)]
      decide
    · unfold tkE
      rw [h, h61]
      rfl
  · refine Lx.one (by rw [h]; decide) ?_ ?_
    · unfold tkV
      rw [h, h61, if_neg (by decide), if_neg (by decide), if_neg (by decide)]
      decide
    · unfold tkE
      rw [h, h61]
      rfl
theorem Lx.cmp1 {B : Nat → Nat} {len p c : Nat} {t : Int32} (h : gB B len p = nI c) (h61 : ¬ gB B len (p + 1) = 61) (hc : (c = 60 ∧ t = -33) ∨ (c = 62 ∧ t = -34)) : Lx B len [t] p (p + 1) := by
  rcases hc with ⟨rfl, rfl⟩ | ⟨rfl, rfl⟩
  · refine Lx.one (by rw [h]; decide) ?_ ?_
    · unfold tkV
      rw [h, decide_eq_false h61, if_neg (by decide), if_neg (by decide), if_neg (by decide)]
      decide
    · unfold tkE
      rw [h, if_neg (by decide), if_neg (by decide), if_neg (fun z => h61 z.2)]
  · refine Lx.one (by rw [h]; decide) ?_ ?_
    · unfold tkV
      rw [h, decide_eq_false h61, if_neg (by decide), if_neg (by decide), if_neg (by decide)]
      decide
    · unfold tkE
      rw [h, if_neg (by decide), if_neg (by decide), if_neg (fun z => h61 z.2)]
theorem wek_w {B : Nat → Nat} {len : Nat} : ∀ (w : List Nat) (k p : Nat), Wd B len p w → w.all (fun c => isLe (nI c)) = true → (isLe (gB B len (p + w.length)) || isDi (gB B len (p + w.length))) = false → w.length < k → wek (gB B len) k p = p + w.length
  | [], k, p, _, _, hn, hk => by
    obtain ⟨k, rfl⟩ : ∃ j, k = j + 1 := ⟨k - 1, by rw [List.length_nil] at hk; omega⟩
    rw [List.length_nil, Nat.add_zero] at hn ⊢
    rw [wek, hn, if_neg Bool.false_ne_true]
    exact (Nat.add_zero p).symm
  | c :: w, k, p, hw, hl, hn, hk => by
    rw [List.length_cons] at hk hn ⊢
    obtain ⟨k, rfl⟩ : ∃ j, k = j + 1 := ⟨k - 1, by omega⟩
    obtain ⟨h0, hw⟩ := hw.cons
    rw [List.all_cons, Bool.and_eq_true] at hl
    rw [wek, h0, hl.1, Bool.true_or, if_pos rfl, wek_w w k (p + 1) hw hl.2 (by rw [show p + 1 + w.length = p + (w.length + 1) by omega]; exact hn) (by omega)]
    omega
def lkL (w : List Nat) : List (List Nat × Int32) → Int32
  | [] => -2
  | (v, t) :: r => if v = w then t else lkL w r
theorem eqW_iff {B : Nat → Nat} {len : Nat} : ∀ (v w : List Nat) (p : Nat), Wd B len p w → v.length = w.length → (∀ c ∈ v, c < 256) → (∀ c ∈ w, c < 256) → (eqW B len p v = true ↔ v = w)
  | [], [], _, _, _, _, _ => ⟨fun _ => rfl, fun _ => rfl⟩
  | [], c :: w, _, _, h, _, _ => by simp at h
  | c :: v, [], _, _, h, _, _ => by simp at h
  | c :: v, d :: w, p, hw, hl, hv, hw' => by
    obtain ⟨h0, h1⟩ := hw.cons
    have ih := eqW_iff v w (p + 1) h1 (by simpa using hl) (fun x hx => hv x (List.mem_cons_of_mem _ hx)) (fun x hx => hw' x (List.mem_cons_of_mem _ hx))
    have c1 := hv c List.mem_cons_self
    have d1 := hw' d List.mem_cons_self
    rw [eqW, Bool.and_eq_true, decide_eq_true_eq, h0, ih, nI_eq (by omega) (by omega)]
    constructor
    · rintro ⟨rfl, rfl⟩
      rfl
    · intro e
      cases e
      exact ⟨rfl, rfl⟩
theorem lkW_l {B : Nat → Nat} {len p : Nat} {w : List Nat} (hw : Wd B len p w) (hw' : ∀ c ∈ w, c < 256) : ∀ (L : List (List Nat × Int32)), (∀ v t, (v, t) ∈ L → ∀ c ∈ v, c < 256) → lkW B len p (p + w.length) L = lkL w L
  | [], _ => rfl
  | (v, t) :: r, h => by
    have ih := lkW_l hw hw' r (fun v t hm => h v t (List.mem_cons_of_mem _ hm))
    rw [lkW, lkL, show p + w.length - p = w.length by omega, ih]
    by_cases e : v = w
    · rw [if_pos e, if_pos]
      rw [Bool.and_eq_true, decide_eq_true_eq]
      exact ⟨by rw [e], (eqW_iff v w p hw (by rw [e]) (h v t List.mem_cons_self) hw').mpr e⟩
    · rw [if_neg e, if_neg]
      rw [Bool.and_eq_true, decide_eq_true_eq]
      intro ⟨z1, z2⟩
      exact e ((eqW_iff v w p hw z1 (h v t List.mem_cons_self) hw').mp z2)
theorem WL_b : WL.all (fun x => x.1.all (fun c => decide (c < 256))) = true := by decide
theorem Lx.wd {B : Nat → Nat} {len p : Nat} {w : List Nat} {t : Int32} (hw : Wd B len p w) (hl : (w.all (fun c => isLe (nI c)) && (w.all (fun c => decide (c < 256)) && (decide (1 ≤ w.length) && (decide (w.length ≤ 10) && decide (lkL w WL = t))))) = true) (hn : (isLe (gB B len (p + w.length)) || isDi (gB B len (p + w.length))) = false) : Lx B len [t] p (p + w.length) := by
  simp only [Bool.and_eq_true, decide_eq_true_eq] at hl
  obtain ⟨l1, l2, l3, l4, l5⟩ := hl
  cases w with
  | nil => simp at l3
  | cons c w =>
    obtain ⟨h0, -⟩ := hw.cons
    have lc : isLe (nI c) = true := by
      rw [List.all_cons, Bool.and_eq_true] at l1
      exact l1.1
    have c256 : c < 256 := by
      rw [List.all_cons, Bool.and_eq_true, decide_eq_true_eq] at l2
      exact l2.1
    have hneg : ¬ nI c < 0 := nI_pos (by omega)
    have nb : isBl (nI c) = false := by
      unfold isLe at lc
      simp only [Bool.and_eq_true, decide_eq_true_eq] at lc
      unfold isBl
      simp only [Bool.or_eq_false_iff, decide_eq_false_iff_not]
      refine ⟨fun e => lc.1 ?_, fun e => lc.1 ?_⟩
      · rw [e]; decide
      · rw [e]; decide
    have hE : tkE B len p = p + (c :: w).length := by
      unfold tkE
      rw [h0, lc, if_pos rfl]
      exact wek_w (c :: w) 2001 p hw l1 hn (by omega)
    refine Lx.one (by rw [h0]; exact nb) ?_ hE
    unfold tkV
    rw [hE, h0, if_neg hneg, lc, if_pos rfl, if_neg (by omega), lkW_l hw (fun x hx => by simpa using List.all_eq_true.mp l2 x hx) WL (fun v t hm x hx => by
      have := List.all_eq_true.mp (List.all_eq_true.mp WL_b (v, t) hm) x hx
      simpa using this)]
    exact l5
/-! numbers -/
theorem nek_d {B : Nat → Nat} {len : Nat} : ∀ (w : List Nat) (k p : Nat), Wd B len p w → (∀ c ∈ w, isDi (nI c) = true) → isDi (gB B len (p + w.length)) = false → w.length < k → nek (gB B len) k p = p + w.length
  | [], k, p, _, _, hn, hk => by
    obtain ⟨k, rfl⟩ : ∃ j, k = j + 1 := ⟨k - 1, by rw [List.length_nil] at hk; omega⟩
    rw [List.length_nil, Nat.add_zero] at hn ⊢
    rw [nek, hn, if_neg Bool.false_ne_true]
    exact (Nat.add_zero p).symm
  | c :: w, k, p, hw, hl, hn, hk => by
    rw [List.length_cons] at hk hn ⊢
    obtain ⟨k, rfl⟩ : ∃ j, k = j + 1 := ⟨k - 1, by omega⟩
    obtain ⟨h0, hw⟩ := hw.cons
    rw [nek, h0, hl c List.mem_cons_self, if_pos rfl, nek_d w k (p + 1) hw (fun x hx => hl x (List.mem_cons_of_mem _ hx)) (by rw [show p + 1 + w.length = p + (w.length + 1) by omega]; exact hn) (by omega)]
    omega
def nvL : List Nat → Int32 → Int32
  | [], v => v
  | c :: w, v => nvL w (v * 10 + nI c - 48)
theorem nvk_d {B : Nat → Nat} {len : Nat} : ∀ (w : List Nat) (k p : Nat) (v : Int32), Wd B len p w → (∀ c ∈ w, isDi (nI c) = true) → isDi (gB B len (p + w.length)) = false → w.length < k → nvk (gB B len) k p v = nvL w v
  | [], k, p, v, _, _, hn, hk => by
    obtain ⟨k, rfl⟩ : ∃ j, k = j + 1 := ⟨k - 1, by rw [List.length_nil] at hk; omega⟩
    rw [List.length_nil, Nat.add_zero] at hn
    rw [nvk, hn, if_neg Bool.false_ne_true]
    rfl
  | c :: w, k, p, v, hw, hl, hn, hk => by
    rw [List.length_cons] at hk hn
    obtain ⟨k, rfl⟩ : ∃ j, k = j + 1 := ⟨k - 1, by omega⟩
    obtain ⟨h0, hw⟩ := hw.cons
    rw [nvk, h0, hl c List.mem_cons_self, if_pos rfl, nvk_d w k (p + 1) _ hw (fun x hx => hl x (List.mem_cons_of_mem _ hx)) (by rw [show p + 1 + w.length = p + (w.length + 1) by omega]; exact hn) (by omega)]
    rfl
theorem nvL_app : ∀ (a b : List Nat) (v : Int32), nvL (a ++ b) v = nvL b (nvL a v)
  | [], _, _ => rfl
  | c :: a, b, v => nvL_app a b (v * 10 + nI c - 48)
theorem nvL_dgk : ∀ (k n : Nat), nvL (dgk k n) 0 = nI (n % 10 ^ k)
  | 0, n => by
    rw [dgk, Nat.pow_zero, Nat.mod_one]
    rfl
  | k + 1, n => by
    rw [dgk, nvL_app, nvL_dgk k (n / 10)]
    show nI (n / 10 % 10 ^ k) * 10 + nI (48 + n % 10) - 48 = _
    have e1 : nI (n / 10 % 10 ^ k) * 10 = nI (n / 10 % 10 ^ k * 10) := (Int32.ofNat_mul _ 10).symm
    have e2 : nI (n / 10 % 10 ^ k * 10) + nI (48 + n % 10) = nI (n / 10 % 10 ^ k * 10 + (48 + n % 10)) := nI_add _ _
    have e3 : nI (n / 10 % 10 ^ k * 10 + (48 + n % 10)) - 48 = nI (n / 10 % 10 ^ k * 10 + (48 + n % 10) - 48) := nI_sub (a := 48) (by omega)
    rw [e1, e2, e3]
    refine congrArg nI ?_
    rw [Nat.pow_succ, Nat.mul_comm (10 ^ k) 10, Nat.mod_mul]
    omega
theorem dgk_di : ∀ (k n : Nat), ∀ c ∈ dgk k n, isDi (nI c) = true
  | 0, _, c, h => absurd h List.not_mem_nil
  | k + 1, n, c, h => by
    rw [dgk, List.mem_append] at h
    rcases h with h | h
    · exact dgk_di k (n / 10) c h
    · have e : c = 48 + n % 10 := by simpa using h
      have hm := Nat.mod_lt n (show 10 > 0 by omega)
      have : ∀ d, d < 10 → isDi (nI (48 + d)) = true := by decide
      rw [e]
      exact this _ hm
theorem nd_ok {n : Nat} (h : n < 1000000) : 1 ≤ nd n ∧ nd n ≤ 6 ∧ n < 10 ^ nd n := by
  unfold nd
  split
  · exact ⟨by omega, by omega, by simpa using by assumption⟩
  · split
    · exact ⟨by omega, by omega, by simpa using by assumption⟩
    · split
      · exact ⟨by omega, by omega, by simpa using by assumption⟩
      · split
        · exact ⟨by omega, by omega, by simpa using by assumption⟩
        · split
          · exact ⟨by omega, by omega, by simpa using by assumption⟩
          · exact ⟨by omega, by omega, by simpa using h⟩
theorem Lx.nm {B : Nat → Nat} {len p n : Nat} (hn : n < 1000000) (hw : Wd B len p (dig n)) (he : isDi (gB B len (p + (dig n).length)) = false) : Lx B len [nI n] p (p + (dig n).length) := by
  obtain ⟨n1, n2, n3⟩ := nd_ok hn
  have hd := dgk_di (nd n) n
  have hl := dgk_len (nd n) n
  have hv := nvL_dgk (nd n) n
  rw [Nat.mod_eq_of_lt n3] at hv
  unfold dig at hw he ⊢
  generalize dgk (nd n) n = w at *
  cases w with
  | nil => rw [List.length_nil] at hl; omega
  | cons c w =>
    obtain ⟨h0, -⟩ := hw.cons
    have dc := hd c List.mem_cons_self
    have dc' := dc
    unfold isDi at dc'
    simp only [Bool.and_eq_true, decide_eq_true_eq] at dc'
    have l0 : isLe (nI c) = false := by
      unfold isLe
      rw [Bool.and_eq_false_iff, decide_eq_false_iff_not]
      left
      intro z
      rw [Int32.lt_iff_toInt_lt] at z dc'
      have := dc'.2
      rw [Int32.lt_iff_toInt_lt] at this
      have e1 : (57 : Int32).toInt = 57 := by decide
      have e2 : (97 : Int32).toInt = 97 := by decide
      omega
    have hneg : ¬ nI c < 0 := by
      intro z
      refine dc'.1 ?_
      rw [Int32.lt_iff_toInt_lt] at z ⊢
      have e1 : (0 : Int32).toInt = 0 := by decide
      have e2 : (48 : Int32).toInt = 48 := by decide
      omega
    have nb : isBl (nI c) = false := by
      unfold isBl
      simp only [Bool.or_eq_false_iff, decide_eq_false_iff_not]
      refine ⟨fun e => dc'.1 ?_, fun e => dc'.1 ?_⟩
      · rw [e]; decide
      · rw [e]; decide
    have hE : tkE B len p = p + (c :: w).length := by
      unfold tkE
      rw [h0, l0, if_neg Bool.false_ne_true, dc, if_pos rfl]
      exact nek_d (c :: w) 2001 p hw hd he (by omega)
    refine Lx.one (by rw [h0]; exact nb) ?_ hE
    unfold tkV
    rw [hE, h0, if_neg hneg, l0, if_neg Bool.false_ne_true, dc, if_pos rfl, if_neg (by omega), nvk_d (c :: w) 2001 p 0 hw hd he (by omega)]
    exact hv
