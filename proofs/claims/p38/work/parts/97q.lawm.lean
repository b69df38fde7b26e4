/-! what the law's checks rest on -/
theorem dn_ub {N : Nat} {o x f t : Int32} : ∀ (k b : Nat) (S : GS), (dn N o x f t k b S).2.2.1 ≤ S.2.2.1 + 2 ^ k
  | 0, b, S => Nat.le_add_right _ _
  | k + 1, b, S => by
    have hp : (2 : Nat) ^ (k + 1) = 2 ^ k + 2 ^ k := by rw [Nat.pow_succ]; omega
    have h1 : 1 ≤ (2 : Nat) ^ k := Nat.one_le_two_pow
    by_cases h : f ≤ gF N b ∧ gL N b ≤ t
    · rw [dn_re h]
      show S.2.2.1 + 1 ≤ _
      omega
    · cases hi : gIn N b with
      | false =>
        rw [dn_lf h hi]
        omega
      | true =>
        rw [dn_in h hi]
        show (dn3 N o x f t k b S).2.2.1 ≤ _
        have q2 : (dn2 N o x f t k b S).2.2.1 ≤ S.2.2.1 + 2 ^ k := by
          unfold dn2
          split
          · have := dn_ub (N := N) (o := o) (x := x) (f := f) (t := t) k (2 * b) (opS N b S)
            rw [opS_r] at this
            exact this
          · rw [opS_r]
            omega
        have q3 : (dn3 N o x f t k b S).2.2.1 ≤ (dn2 N o x f t k b S).2.2.1 + 2 ^ k := by
          unfold dn3
          split
          · exact dn_ub k (2 * b + 1) _
          · omega
        omega
theorem goR_cnt {N f L : Nat} {o x pu : Int32} {V : Val} (h2 : 2 ≤ N) (h32 : N ≤ 32) (hfl : f ≤ L) (hL : L < N) : 1 ≤ (goR N o x (nI f) (nI L) V pu).2.2.1 ∧ (goR N o x (nI f) (nI L) V pu).2.2.1 ≤ 64 := by
  obtain ⟨a, b, c⟩ := tOK_s (tOK_N h32 hfl hL)
  refine ⟨goS_re h2 h32 (i32_le_tr a b) b (i32_le_tr b (lt_pred h2 h32 c)), ?_⟩
  have := dn_ub (N := N) (o := o) (x := x) (f := nI f) (t := nI L) 6 1 (V, pu, 0, 0, 0, 0)
  exact this
/-! the first so high -/
theorem FirstAt.uq {g : Nat → Int32} {N : Nat} {h r r' : Int32} (a : FirstAt g N h r) (b : FirstAt g N h r') : r = r' := by
  rcases a with ⟨a1, a2⟩ | ⟨t, t1, t2, t3, t4⟩
  · rcases b with ⟨b1, b2⟩ | ⟨u, u1, u2, u3, u4⟩
    · rw [a1, b1]
    · exact absurd u3 (i32_lt_n (a2 u u1))
  · rcases b with ⟨b1, b2⟩ | ⟨u, u1, u2, u3, u4⟩
    · exact absurd t3 (i32_lt_n (b2 t t1))
    · rcases Nat.lt_trichotomy t u with e | e | e
      · exact absurd t3 (i32_lt_n (u4 t e))
      · rw [t2, u2, e]
      · exact absurd u3 (i32_lt_n (t4 u e))
def FA (g : Nat → Int32) (N : Nat) (h : Int32) (i : Nat) (r : Int32) : Prop := (r = -1 ∧ ∀ t, i ≤ t → t < N → g t < h) ∨ ∃ t, i ≤ t ∧ t < N ∧ r = nI t ∧ h ≤ g t ∧ ∀ u, i ≤ u → u < t → g u < h
theorem FA.lt {g : Nat → Int32} {N i : Nat} {h r : Int32} (a : FA g N h (i + 1) r) (b : g i < h) : FA g N h i r := by
  rcases a with ⟨a1, a2⟩ | ⟨t, t0, t1, t2, t3, t4⟩
  · refine Or.inl ⟨a1, fun t h1 h2 => ?_⟩
    by_cases e : t = i
    · rw [e]; exact b
    · exact a2 t (by omega) h2
  · refine Or.inr ⟨t, by omega, t1, t2, t3, fun u h1 h2 => ?_⟩
    by_cases e : u = i
    · rw [e]; exact b
    · exact t4 u (by omega) h2
theorem FA.ge {g : Nat → Int32} {N i : Nat} {h : Int32} (hi : i < N) (b : h ≤ g i) : FA g N h i (nI i) := Or.inr ⟨i, Nat.le_refl _, hi, rfl, b, fun u h1 h2 => by omega⟩
theorem FA.zero {g : Nat → Int32} {N : Nat} {h r : Int32} (a : FA g N h 0 r) : FirstAt g N h r := by
  rcases a with ⟨a1, a2⟩ | ⟨t, t0, t1, t2, t3, t4⟩
  · exact Or.inl ⟨a1, fun t ht' => a2 t (Nat.zero_le _) ht'⟩
  · exact Or.inr ⟨t, t1, t2, t3, fun u hu => t4 u (Nat.zero_le _) hu⟩
/-! small sums -/
theorem i32_as (a b : Int32) : a + (b - a) = b := by rw [Int32.sub_eq_add_neg, Int32.add_comm b, ← Int32.add_assoc, Int32.add_right_neg, Int32.zero_add]
theorem i32_sa (a b : Int32) : a + b - a = b := by rw [Int32.sub_eq_add_neg, Int32.add_comm a b, Int32.add_assoc, Int32.add_right_neg, Int32.add_zero]
theorem nL_I : ∀ (n : Nat), n < 1000 → (nI n).toInt64 = nL n
  | 0, _ => rfl
  | n + 1, h => by
    have e : na (nI n) = n := by
      unfold na
      rw [nI_ti (by omega)]
      rfl
    have e1 : na (1 : Int32) = 1 := by decide
    rw [nI_succ, na_l (by rw [e, e1]; omega), nL_I n (by omega)]
    rfl
theorem oE_cnt {N : Nat} {S : GS} : ∀ (k : Nat), ∃ c, c ≤ k ∧ (oE N k S).2.1 = S.2.1 + nI c
  | 0 => ⟨0, Nat.le_refl _, by show S.2.1 = S.2.1 + 0; rw [Int32.add_zero]⟩
  | k + 1 => by
    obtain ⟨c, c1, c2⟩ := oE_cnt (N := N) (S := S) k
    rw [oE]
    split
    · by_cases hw : wtb ((oE N k S).1 k) = true
      · refine ⟨c + 1, by omega, ?_⟩
        unfold opS
        rw [if_pos hw]
        show (oE N k S).2.1 + 1 = _
        rw [c2, nI_succ, Int32.add_assoc]
      · refine ⟨c, by omega, ?_⟩
        unfold opS
        rw [if_neg hw]
        exact c2
    · exact ⟨c, by omega, c2⟩
/-! rows of heights stay -/
theorem HA.pf {τ : MTau} {μ μ' : MMu} {hh N o : Nat} {g : Nat → Int32} {C : XC} {S : SC} (h : HA τ μ hh N g) (hn : NOC C o S N hh) (hp : PFr μ μ' C o S N) : HA τ μ' hh N g := ⟨h.1, fun t ht' => by rw [hp hh hn]; exact h.2 t ht'⟩
theorem HA.nw {E : MEnv} {τ τ' : MTau} {μ μ' : MMu} {hh N : Nat} {g : Nat → Int32} (h : HA τ μ hh N g) (hN : NW E τ μ τ' μ') : HA τ' μ' hh N g := by
  obtain ⟨a, b⟩ := hN.cls h.1
  exact ⟨a, fun t ht' => by rw [b]; exact h.2 t ht'⟩
theorem HA.cg {τ : MTau} {μ : MMu} {hh N : Nat} {g g' : Nat → Int32} (h : HA τ μ hh N g) (e : ∀ t, t < N → g t = g' t) : HA τ μ hh N g' := ⟨h.1, fun t ht' => by rw [← e t ht']; exact h.2 t ht'⟩
/-! what single branches tell -/
theorem SOK.w1 {N K : Nat} {V : Val} (h : SOK N K V) (h2 : 2 ≤ N) (h32 : N ≤ 32) : (V 1).1 = sR (fun t => (ht N V t).toInt64) 0 N := by
  have w := h.w h2 h32 (b := 1) (Nat.le_refl _) (by omega) (gEx_1 h2 h32)
  obtain ⟨u1, u2⟩ := fl_1 h2 h32
  rw [u1, u2, show N - 1 + 1 - 0 = N by omega] at w
  rw [w]
  exact sR_cg _ (fun t _ _ => by rw [tl_1])
theorem SOK.lf {N K b : Nat} {V : Val} (h : SOK N K V) (h2 : 2 ≤ N) (h32 : N ≤ 32) (h1 : 1 ≤ b) (hb : b < 64) (he : gEx N b = true) (hi : gIn N b = false) : (V b).1 = (V b).2.1.toInt64 ∧ (V b).2.1 = (V b).2.2.1 ∧ (V b).2.2.2.1 = 0 ∧ (V b).2.2.2.2.1 = 0 := by
  have c := CB_at h2 h32 h.1 b h1 hb he
  have g := GB_at h2 h32 h.2.1 b h1 hb he
  obtain ⟨k, hk⟩ : ∃ k, kd b = k + 1 := ⟨kd b - 1, by have := (kd_at h1 hb).2.2.1; omega⟩
  rw [hk] at c g
  exact ⟨c.2.2.2.2 hi, g.2.2.2.2 hi, (h.2.2.1 b h1 hb).2.2 hi⟩
theorem SOK.inn {N K b : Nat} {V : Val} (h : SOK N K V) (h2 : 2 ≤ N) (h32 : N ≤ 32) (h1 : 1 ≤ b) (hb : b < 64) (he : gEx N b = true) (hi : gIn N b = true) : LCh V b ∧ LCw N V b ∧ LC V b := by
  have c := CB_at h2 h32 h.1 b h1 hb he
  have g := GB_at h2 h32 h.2.1 b h1 hb he
  obtain ⟨k, hk⟩ : ∃ k, kd b = k + 1 := ⟨kd b - 1, by have := (kd_at h1 hb).2.2.1; omega⟩
  rw [hk] at c g
  exact ⟨(c.2.2.2.1 hi).1.1, (c.2.2.2.1 hi).1.2, (g.2.2.2.1 hi).1⟩
theorem SOK.no {N K b : Nat} {V : Val} (h : SOK N K V) (h2 : 2 ≤ N) (h32 : N ≤ 32) (h1 : 1 ≤ b) (hb : b < 64) (he : gEx N b = true) (hi : gIn N b = true) (hr : (V b).2.2.2.1 = 0) (hh : (V b).2.2.2.2.1 = 0) : (V b).1 = (V (2 * b)).1 + (V (2 * b + 1)).1 ∧ (V b).2.1 = imax (V (2 * b)).2.1 (V (2 * b + 1)).2.1 ∧ (V b).2.2.1 = imin (V (2 * b)).2.2.1 (V (2 * b + 1)).2.2.1 := by
  obtain ⟨a, b', c⟩ := h.inn h2 h32 h1 hb he hi
  unfold LCh at a
  unfold LCw at b'
  unfold LC at c
  rw [if_pos hh, hr] at a b' c
  refine ⟨?_, ?_, ?_⟩
  · rw [b', show (0 : Int32).toInt64 = 0 from rfl, Int64.zero_mul, Int64.add_zero]
  · rw [a, Int32.add_zero]
  · rw [c, Int32.add_zero]
theorem SOK.lv {N K b : Nat} {V : Val} (h : SOK N K V) (h2 : 2 ≤ N) (h32 : N ≤ 32) (h1 : 1 ≤ b) (hb : b < 64) (he : gEx N b = true) (hi : gIn N b = true) (hh : ¬ (V b).2.2.2.2.1 = 0) : (V b).2.1 = (V b).2.2.2.2.2 + (V b).2.2.2.1 ∧ (V b).2.2.1 = (V b).2.2.2.2.2 + (V b).2.2.2.1 := by
  obtain ⟨a, -, c⟩ := h.inn h2 h32 h1 hb he hi
  unfold LCh at a
  unfold LC at c
  rw [if_neg hh] at a c
  exact ⟨a, c⟩
/-- with nothing over a branch it tells its terraces' heights -/
theorem SOK.ov {N K b : Nat} {V : Val} (h : SOK N K V) (h2 : 2 ≤ N) (h32 : N ≤ 32) (h1 : 1 ≤ b) (hb : b < 64) (he : gEx N b = true) (hi : gIn N b = true) (e : ovC N V (nI (fb N b)) = (if wtb (V b) = true then 1 else 0) + nI (pcl N V (kd (2 * b)) (2 * b))) : (V b).1 = sR (fun t => (ht N V t).toInt64) (fb N b) (lb N b + 1 - fb N b) := by
  obtain ⟨-, -, x3, x4, -⟩ := fl_ex h2 h32 hb he
  have hc := (geo_in h2 h32 hb hi).1
  obtain ⟨kk1, kk2⟩ := (kd_at h1 hb).2.2.2 (by omega)
  have hp := pcl_pc h2 h32 h.2.2.1 (kd b) b h1 hb he
  have hk : pcl N V (kd b) b = (if wtb (V b) = true then 1 else 0) + pcl N V (kd (2 * b)) (2 * b) := by
    rw [← kk1, pcl, if_pos hi]
  have e2 : (if wtb (V b) = true then (1 : Int32) else 0) = nI (if wtb (V b) = true then 1 else 0) := by
    split <;> rfl
  rw [ovC_pc h2 h32 (by omega), e2, nI_add, ← hk, ← hp] at e
  have b1 := pcw_le (N := N) (V := V) (t := fb N b) 6 1
  have b2 := pcw_le (N := N) (V := V) (t := fb N b) (kd b) b
  have b3 := (kd_at h1 hb).2.1
  have e := (nI_eq (by omega) (by omega)).mp e
  have up := (pcw_up h2 h32 b h1 hb he (Nat.le_refl _) x3).2 e
  rw [h.w h2 h32 h1 hb he]
  exact sR_cg _ (fun t a c => by rw [up t a (by omega)])
/-! rain and levels do to each terrace what they say -/
theorem ht_goR {N : Nat} {o x pu : Int32} {V : Val} {f l t : Nat} (h2 : 2 ≤ N) (h32 : N ≤ 32) (hf : f < N) (hl : l < N) (ht' : t < N) : ht N (goR N o x (nI f) (nI l) V pu).1 t = if f ≤ t ∧ t ≤ l then nwh o x (ht N V t) else ht N V t := ht_goS (S := (V, pu, 0, 0, 0, 0)) h2 h32 hf hl ht'
theorem lvl_w {N K f L : Nat} {x pu : Int32} {V : Val} (h : SOK N K V) (h2 : 2 ≤ N) (h32 : N ≤ 32) (hx : na x ≤ 999) (hK : K + 999 < 900000000) (hfl : f ≤ L) (hL : L < N) : ((goR N (-14) x (nI f) (nI L) V pu).1 1).1 - (V 1).1 = (nI (L + 1 - f)).toInt64 * x.toInt64 - sR (fun t => (ht N V t).toInt64) f (L + 1 - f) := by
  have h' := h.go (o := -14) (f := nI f) (t := nI L) (pu := pu) h2 h32 hx hK
  rw [h'.w1 h2 h32, h.w1 h2 h32, nL_I _ (by omega), Int64.mul_comm]
  refine sR_lvl hfl hL (fun t ht' => ?_)
  show (ht N _ t).toInt64 = if f ≤ t ∧ t ≤ L then x.toInt64 else (ht N V t).toInt64
  rw [ht_goR h2 h32 (by omega) hL ht']
  split
  · unfold nwh
    rw [if_neg (by decide), if_pos rfl]
  · rfl
/-! what is foreseen of days -/
def UN (N : Nat) (l : List LN) (v : Val × Int32 × Int32) (t : Nat) (so r : Int32) : Prop := (r = -1 ∧ ∀ i, i ≤ 30 → ht N (dayR N l i v).1 t < so) ∨ ∃ j, j ≤ 30 ∧ r = nI j ∧ (∀ i, i < j → ht N (dayR N l i v).1 t < so) ∧ ¬ ht N (dayR N l j v).1 t < so
theorem UN_sp {N : Nat} {l : List LN} {v : Val × Int32 × Int32} {t : Nat} {so : Int32} : UN N l v t so (if hg N (duF N l (nI t) so 30 v).1 (nI t) 6 1 0 < so then -1 else (duF N l (nI t) so 30 v).2.2 - v.2.2) := by
  obtain ⟨j, j1, j2, j3, j4⟩ := duF_sp (N := N) (l := l) (t := nI t) (h := so) 30 v
  rw [j2]
  by_cases hlt : hg N (dayR N l j v).1 (nI t) 6 1 0 < so
  · rw [if_pos hlt]
    refine Or.inl ⟨rfl, fun i hi => ?_⟩
    have e : j = 30 := by
      by_cases e : j < 30
      · exact absurd hlt (j4 e)
      · omega
    by_cases e2 : i = j
    · rw [e2]; exact hlt
    · exact j3 i (by omega)
  · rw [if_neg hlt]
    refine Or.inr ⟨j, j1, ?_, fun i hi => j3 i hi, hlt⟩
    rw [dayR_d, i32_sa]
