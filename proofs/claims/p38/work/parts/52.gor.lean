/-! a going down reaches something, and what it tells depends on nothing else -/
def GRel (S S' : GS) : Prop := S.1 = S'.1 ∧ S.2.1 = S'.2.1 ∧ S.2.2.1 = S'.2.2.1 ∧ S.2.2.2.1 = S'.2.2.2.1 ∧ (¬ S.2.2.1 = 0 → S.2.2.2.2.1 = S'.2.2.2.2.1 ∧ S.2.2.2.2.2 = S'.2.2.2.2.2)
theorem GR_rc {N : Nat} {o x : Int32} {b : Nat} {S S' : GS} (h : GRel S S') : GRel (rcS N o x b S) (rcS N o x b S') := by
  obtain ⟨V, p, r, s, m, l⟩ := S
  obtain ⟨V', p', r', s', m', l'⟩ := S'
  obtain ⟨h1, h2, h3, h4, h5⟩ := h
  replace h1 : V = V' := h1
  replace h2 : p = p' := h2
  replace h3 : r = r' := h3
  replace h4 : s = s' := h4
  replace h5 : ¬ r = 0 → m = m' ∧ l = l' := h5
  subst h1 h2 h3 h4
  have e0 : rcS N o x b (V, p, r, s, m, l) = (rcV N o x b V, p, r + 1, s + (rcV N o x b V b).1, (if r = 0 then (rcV N o x b V b).2.1 else imax m (rcV N o x b V b).2.1), (if r = 0 then (rcV N o x b V b).2.2.1 else imin l (rcV N o x b V b).2.2.1)) := rfl
  have e1 : rcS N o x b (V, p, r, s, m', l') = (rcV N o x b V, p, r + 1, s + (rcV N o x b V b).1, (if r = 0 then (rcV N o x b V b).2.1 else imax m' (rcV N o x b V b).2.1), (if r = 0 then (rcV N o x b V b).2.2.1 else imin l' (rcV N o x b V b).2.2.1)) := rfl
  rw [e0, e1]
  generalize rcV N o x b V = W
  generalize s + (W b).1 = s1
  refine ⟨show W = W from rfl, show p = p from rfl, show r + 1 = r + 1 from rfl, show s1 = s1 from rfl, fun _ => ?_⟩
  show (if r = 0 then (W b).2.1 else imax m (W b).2.1) = (if r = 0 then (W b).2.1 else imax m' (W b).2.1) ∧ (if r = 0 then (W b).2.2.1 else imin l (W b).2.2.1) = (if r = 0 then (W b).2.2.1 else imin l' (W b).2.2.1)
  by_cases e : r = 0
  · rw [if_pos e, if_pos e, if_pos e, if_pos e]
    exact ⟨rfl, rfl⟩
  · obtain ⟨a, c⟩ := h5 e
    rw [a, c]
    exact ⟨rfl, rfl⟩
theorem GR_op {N b : Nat} {S S' : GS} (h : GRel S S') : GRel (opS N b S) (opS N b S') := by
  obtain ⟨h1, h2, h3, h4, h5⟩ := h
  unfold opS
  rw [← h1, ← h2]
  split
  · exact ⟨rfl, rfl, h3, h4, h5⟩
  · exact ⟨h1, h2, h3, h4, h5⟩
theorem GR_dn {N : Nat} {o x f t : Int32} : ∀ (k b : Nat) (S S' : GS), GRel S S' → GRel (dn N o x f t k b S) (dn N o x f t k b S')
  | 0, b, S, S', h => h
  | k + 1, b, S, S', h => by
    rw [dn, dn]
    split
    · exact GR_rc h
    · split
      · exact h
      · have hA : GRel (if tch N f t (2 * b) = true then dn N o x f t k (2 * b) (opS N b S) else opS N b S) (if tch N f t (2 * b) = true then dn N o x f t k (2 * b) (opS N b S') else opS N b S') := by
          split
          · exact GR_dn k _ _ _ (GR_op h)
          · exact GR_op h
        have hB : GRel (if tch N f t (2 * b + 1) = true then dn N o x f t k (2 * b + 1) (if tch N f t (2 * b) = true then dn N o x f t k (2 * b) (opS N b S) else opS N b S) else (if tch N f t (2 * b) = true then dn N o x f t k (2 * b) (opS N b S) else opS N b S)) (if tch N f t (2 * b + 1) = true then dn N o x f t k (2 * b + 1) (if tch N f t (2 * b) = true then dn N o x f t k (2 * b) (opS N b S') else opS N b S') else (if tch N f t (2 * b) = true then dn N o x f t k (2 * b) (opS N b S') else opS N b S')) := by
          split
          · exact GR_dn k _ _ _ hA
          · exact hA
        obtain ⟨h1, h2, h3, h4, h5⟩ := hB
        refine ⟨?_, h2, h3, h4, h5⟩
        show teV b _ = teV b _
        rw [h1]
theorem dn_ge {N : Nat} {o x f t : Int32} : ∀ (k b : Nat) (S : GS), S.2.2.1 ≤ (dn N o x f t k b S).2.2.1
  | 0, b, S => Nat.le_refl _
  | k + 1, b, S => by
    rw [dn]
    split
    · exact Nat.le_succ _
    · split
      · exact Nat.le_refl _
      · have h0 : S.2.2.1 = (opS N b S).2.2.1 := by rw [opS_r]
        have hA : S.2.2.1 ≤ (if tch N f t (2 * b) = true then dn N o x f t k (2 * b) (opS N b S) else opS N b S).2.2.1 := by
          split
          · rw [h0]; exact dn_ge k _ _
          · rw [h0]; exact Nat.le_refl _
        show S.2.2.1 ≤ (if tch N f t (2 * b + 1) = true then dn N o x f t k (2 * b + 1) _ else _).2.2.1
        split
        · exact Nat.le_trans hA (dn_ge k _ _)
        · exact hA
theorem i32_suc {m f : Int32} (h : m < f) : m + 1 ≤ f := by
  rw [Int32.lt_iff_toInt_lt] at h
  rw [Int32.le_iff_toInt_le, Int32.toInt_add]
  have h1 := Int32.toInt_lt f
  have h2 := Int32.le_toInt m
  have e : (1 : Int32).toInt = 1 := by decide
  rw [e, Int.bmod_def]
  simp only [Nat.reducePow]
  omega
theorem i32_anti {a b : Int32} (h1 : a ≤ b) (h2 : ¬ a < b) : a = b := by
  rw [Int32.le_iff_toInt_le] at h1
  rw [Int32.lt_iff_toInt_lt] at h2
  exact Int32.toInt_inj.mp (by omega)
theorem i32_nle {a b : Int32} (h : ¬ a ≤ b) : b < a := by
  rw [Int32.le_iff_toInt_le] at h
  rw [Int32.lt_iff_toInt_lt]
  omega
theorem i32_le_tr {a b c : Int32} (h : a ≤ b) (h' : b ≤ c) : a ≤ c := by
  rw [Int32.le_iff_toInt_le] at h h' ⊢
  omega
theorem dn_reach {N : Nat} {o x f t : Int32} (h2 : 2 ≤ N) (h32 : N ≤ 32) (hft : f ≤ t) : ∀ (k b : Nat) (S : GS), k ≤ 6 → 2 ^ (6 - k) ≤ b → b < 64 → gEx N b = true → gF N b ≤ t → f ≤ gL N b → S.2.2.1 < (dn N o x f t k b S).2.2.1 := by
  intro k
  induction k with
  | zero =>
    intro b S hk hb hb' he hF hL
    have : (2 : Nat) ^ (6 - 0) = 64 := rfl
    omega
  | succ k ih =>
    intro b S hk hb hb' he hF hL
    rw [dn]
    split
    · exact Nat.lt_succ_self _
    · rename_i hna
      split
      · rename_i hi
        have hle := (geo_le h2 h32 hb').mpr he
        have hn : ¬ gF N b < gL N b := fun h => by rw [geo_lt h2 h32 hb', hi] at h; cases h
        have := i32_anti hle hn
        exact absurd ⟨by rw [this]; exact hL, by rw [← this]; exact hF⟩ hna
      · rename_i hi
        have hi : gIn N b = true := by simpa using hi
        obtain ⟨a1, a2, a3, a4, a5, a6, a7, a8, a9⟩ := geo_in h2 h32 hb' hi
        have h0 : S.2.2.1 = (opS N b S).2.2.1 := by rw [opS_r]
        have hp : 2 ^ (6 - k) = 2 * 2 ^ (6 - (k + 1)) := by
          rw [show 6 - k = (6 - (k + 1)) + 1 by omega, Nat.pow_succ]
          omega
        show S.2.2.1 < (if tch N f t (2 * b + 1) = true then dn N o x f t k (2 * b + 1) (if tch N f t (2 * b) = true then dn N o x f t k (2 * b) (opS N b S) else opS N b S) else (if tch N f t (2 * b) = true then dn N o x f t k (2 * b) (opS N b S) else opS N b S)).2.2.1
        by_cases hl : f ≤ gL N (2 * b)
        · have ht : tch N f t (2 * b) = true := decide_eq_true ⟨by rw [a4]; exact hF, hl⟩
          rw [if_pos ht]
          have hlt := ih (2 * b) (opS N b S) (by omega) (by omega) (by omega) a8 (by rw [a4]; exact hF) hl
          split
          · exact Nat.lt_of_lt_of_le (by rw [h0]; exact hlt) (dn_ge k _ _)
          · rw [h0]; exact hlt
        · have hm : gF N (2 * b + 1) ≤ f := by
            rw [a6, ← a5]
            exact i32_suc (i32_nle hl)
          have ht : tch N f t (2 * b + 1) = true := decide_eq_true ⟨i32_le_tr hm hft, by rw [a7]; exact hL⟩
          rw [if_pos ht]
          refine Nat.lt_of_le_of_lt ?_ (ih (2 * b + 1) _ (by omega) (by omega) (by omega) a9 (i32_le_tr hm hft) (by rw [a7]; exact hL))
          split
          · rw [h0]; exact dn_ge k _ _
          · rw [h0]; exact Nat.le_refl _
def goR (N : Nat) (o x f t : Int32) (V : Val) (pu : Int32) : GS := goS N o x f t (V, pu, 0, 0, 0, 0)
theorem i32_nl {a b : Int32} (h : ¬ a < b) : b ≤ a := by
  rw [Int32.lt_iff_toInt_lt] at h
  rw [Int32.le_iff_toInt_le]
  omega
theorem tOK_s {N : Nat} {f t : Int32} (h : tOK N f t = true) : 0 ≤ f ∧ f ≤ t ∧ t < nI N := by
  unfold tOK at h
  simp only [Bool.and_eq_true, decide_eq_true_eq] at h
  exact ⟨i32_nl h.1, i32_nl h.2.1, h.2.2⟩
theorem nI_p {N : Nat} (h2 : 2 ≤ N) : nI N - 1 = nI (N - 1) := nI_sub (a := 1) (by omega)
theorem lt_pred {N : Nat} {t : Int32} (h2 : 2 ≤ N) (h32 : N ≤ 32) (h : t < nI N) : t ≤ nI N - 1 := by
  rw [nI_p h2]
  rw [Int32.lt_iff_toInt_lt] at h
  rw [Int32.le_iff_toInt_le]
  have e1 : (nI N).toInt = N := Int32.toInt_ofNat_of_lt (by omega)
  have e2 : (nI (N - 1)).toInt = ((N - 1 : Nat) : Int) := Int32.toInt_ofNat_of_lt (by omega)
  omega
theorem goS_re {N : Nat} {o x f t : Int32} {S : GS} (h2 : 2 ≤ N) (h32 : N ≤ 32) (h0 : 0 ≤ t) (hft : f ≤ t) (hfl : f ≤ nI N - 1) : 0 < (goS N o x f t S).2.2.1 := by
  obtain ⟨g1, g2, g3, g4⟩ := geo_one h2 h32
  exact dn_reach h2 h32 hft 6 1 (S.1, S.2.1, 0, 0, S.2.2.2.2) (by omega) (by decide) (by omega) g1 (by rw [g2]; exact h0) (by rw [g3]; exact hfl)
theorem goS_R {N : Nat} {o x f t : Int32} {S : GS} (h2 : 2 ≤ N) (h32 : N ≤ 32) (h0 : 0 ≤ t) (hft : f ≤ t) (hfl : f ≤ nI N - 1) : goS N o x f t S = goR N o x f t S.1 S.2.1 := by
  have hr : GRel (goS N o x f t S) (goR N o x f t S.1 S.2.1) := GR_dn 6 1 _ _ ⟨rfl, rfl, rfl, rfl, fun h => absurd rfl h⟩
  have hp := goS_re (o := o) (x := x) (S := S) h2 h32 h0 hft hfl
  obtain ⟨a, b, c, d, e⟩ := hr
  obtain ⟨e1, e2⟩ := e (by omega)
  exact Prod.ext a (Prod.ext b (Prod.ext c (Prod.ext d (Prod.ext e1 e2))))
theorem goS_T {N : Nat} {o x f t : Int32} {S : GS} (h2 : 2 ≤ N) (h32 : N ≤ 32) (h : tOK N f t = true) : goS N o x f t S = goR N o x f t S.1 S.2.1 := by
  obtain ⟨a, b, c⟩ := tOK_s h
  exact goS_R h2 h32 (i32_le_tr a b) b (i32_le_tr b (lt_pred h2 h32 c))
