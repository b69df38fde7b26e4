/-! the first terrace so high; days one behind the other; all open; every branch -/
theorem i32_nlt' {a b : Int32} (h : ¬ a ≤ b) : b < a := i32_nle h
theorem i32_le_lt {a b c : Int32} (h : a ≤ b) (h' : b < c) : a < c := by
  rw [Int32.le_iff_toInt_le] at h
  rw [Int32.lt_iff_toInt_lt] at h' ⊢
  omega
theorem i32_lt_n {a b : Int32} (h : a < b) : ¬ b ≤ a := by
  rw [Int32.lt_iff_toInt_lt] at h
  rw [Int32.le_iff_toInt_le]
  omega
theorem ff_at {N : Nat} {h : Int32} {g : Nat → Int32} (h2 : 2 ≤ N) (h32 : N ≤ 32) : ∀ (k b : Nat) (S : GS) (K : Nat), 1 ≤ b → b < 64 → 2 ^ (6 - k) ≤ b → k ≤ 6 → gEx N b = true → K < 900000000 → CB N S.1 k K b → (∀ t, fb N b ≤ t → t ≤ lb N b → hg N S.1 (nI t) k b 0 = g t) → h ≤ (S.1 b).2.1 → ∃ t, fb N b ≤ t ∧ t ≤ lb N b ∧ gF N (ff N h k b S).1 = nI t ∧ h ≤ g t ∧ ∀ u, fb N b ≤ u → u < t → g u < h
  | 0, b, S, K, _, hb, hp, _, _, _, _, _, _ => by
    exfalso
    have : (2 : Nat) ^ (6 - 0) = 64 := rfl
    omega
  | k + 1, b, S, K, hb1, hb, hp, hk6, he, hK, hC, hg', hh => by
    obtain ⟨e1, e2, e3, e4, e5⟩ := fl_ex h2 h32 hb he
    rw [ff]
    cases hi : gIn N b with
    | false =>
      have hl := fl_lf h2 h32 hb he hi
      rw [if_neg Bool.false_ne_true]
      refine ⟨fb N b, by omega, by omega, e1, ?_, fun u p q => by omega⟩
      rw [← hg' (fb N b) (by omega) (by omega), hgN_lf hi]
      exact hh
    | true =>
      rw [if_pos rfl]
      have hc := (geo_in h2 h32 hb hi).1
      obtain ⟨x1, x2⟩ := un_ex h2 h32 hb hi
      obtain ⟨f1, f2, f3, f4, f5⟩ := fl_in h2 h32 hb hi
      obtain ⟨-, -, a3, a4, -⟩ := fl_ex h2 h32 (b := 2 * b) (by omega) x1
      obtain ⟨-, -, c3, c4, -⟩ := fl_ex h2 h32 (b := 2 * b + 1) (by omega) x2
      have hpw := pw_2 hk6 hp
      have z := opS_z (N := N) (b := b) (S := S)
      have zh := (opS_hw (N := N) (b := b) (c := b) (S := S) (by omega) (by omega)).1
      obtain ⟨-, -, -, r4, -⟩ := CB_opS h2 h32 hb1 hb hi (by omega) hC
      obtain ⟨⟨r1, -⟩, r2, r3⟩ := r4 hi
      rw [z.1, na_z, Nat.sub_zero] at r2 r3
      unfold LCh at r1
      rw [z.2, if_pos rfl, z.1, Int32.add_zero, zh] at r1
      have hO : ∀ t, fb N b ≤ t → t ≤ lb N b → hg N (opS N b S).1 (nI t) k (if t ≤ lb N (2 * b) then 2 * b else 2 * b + 1) 0 = g t := by
        intro t p q
        rw [← hg' t p q, ← hg_op (S := S) h2 h32 hb1 hb hi]
        unfold chd
        rw [(fl_ex h2 h32 (b := 2 * b) (by omega) x1).2.1]
        by_cases ht : t ≤ lb N (2 * b)
        · rw [if_pos ht, if_pos ((nI_leq (by omega) (by omega)).mpr ht)]
        · rw [if_neg ht, if_neg (fun w => ht ((nI_leq (by omega) (by omega)).mp w))]
      have hO1 : ∀ t, fb N (2 * b) ≤ t → t ≤ lb N (2 * b) → hg N (opS N b S).1 (nI t) k (2 * b) 0 = g t := fun t p q => by
        have := hO t (by omega) (by omega)
        rw [if_pos q] at this
        exact this
      have hO2 : ∀ t, fb N (2 * b + 1) ≤ t → t ≤ lb N (2 * b + 1) → hg N (opS N b S).1 (nI t) k (2 * b + 1) 0 = g t := fun t p q => by
        have := hO t (by omega) (by omega)
        rw [if_neg (by omega)] at this
        exact this
      by_cases hl : h ≤ ((opS N b S).1 (2 * b)).2.1
      · rw [if_pos hl]
        obtain ⟨t, p1, p2, p3, p4, p5⟩ := ff_at h2 h32 k (2 * b) _ K (by omega) (by omega) hpw.1 (by omega) x1 hK r2 hO1 hl
        exact ⟨t, by omega, by omega, p3, p4, fun u q q' => p5 u (by omega) q'⟩
      · rw [if_neg hl]
        have hr : h ≤ ((opS N b S).1 (2 * b + 1)).2.1 := by
          rw [r1] at hh
          rcases (imax_ge (a := ((opS N b S).1 (2 * b)).2.1) (b := ((opS N b S).1 (2 * b + 1)).2.1)).2.2 with i | i
          · rw [i] at hh
            exact absurd hh hl
          · rw [i] at hh
            exact hh
        obtain ⟨t, p1, p2, p3, p4, p5⟩ := ff_at h2 h32 k (2 * b + 1) _ K (by omega) (by omega) hpw.2 (by omega) x2 hK r3 hO2 hr
        have m := (hg_max h2 h32 k K (2 * b) (by omega) x1 hK r2).1
        refine ⟨t, by omega, by omega, p3, p4, fun u q q' => ?_⟩
        by_cases hu : u ≤ lb N (2 * b)
        · have := m u (by omega) (by omega)
          rw [← hO1 u (by omega) hu]
          exact i32_le_lt this (i32_nle hl)
        · exact p5 u (by omega) q'
def FirstAt (g : Nat → Int32) (N : Nat) (h r : Int32) : Prop := (r = -1 ∧ ∀ t, t < N → g t < h) ∨ ∃ t, t < N ∧ r = nI t ∧ h ≤ g t ∧ ∀ u, u < t → g u < h
theorem ffS_first {N K : Nat} {h : Int32} {S : GS} (h2 : 2 ≤ N) (h32 : N ≤ 32) (hK : K < 900000000) (hC : CB N S.1 6 K 1) : FirstAt (ht N S.1) N h (ffS N h S).1 := by
  obtain ⟨u1, u2⟩ := fl_1 h2 h32
  unfold ffS
  by_cases hl : (S.1 1).2.1 < h
  · rw [if_pos hl]
    refine Or.inl ⟨rfl, fun t ht' => ?_⟩
    have m := (hg_max h2 h32 6 K 1 (by omega) (gEx_1 h2 h32) hK hC).1
    exact i32_le_lt (m t (by omega) (by omega)) hl
  · rw [if_neg hl]
    obtain ⟨t, p1, p2, p3, p4, p5⟩ := ff_at (h := h) (g := ht N S.1) h2 h32 6 1 S K (by omega) (by omega) (by omega) (by omega) (gEx_1 h2 h32) hK hC (fun t _ _ => rfl) (i32_nl hl)
    exact Or.inr ⟨t, by omega, p3, p4, fun u q => p5 u (by omega) q⟩
theorem daysS_ad {N : Nat} {l : List LN} : ∀ (a b : Nat) (x : GS × Int32), daysS N l (a + b) x = daysS N l b (daysS N l a x)
  | 0, b, x => by rw [Nat.zero_add]; rfl
  | a + 1, b, x => by
    rw [show a + 1 + b = (a + b) + 1 by omega, daysS, daysS]
    exact daysS_ad a b _
theorem dayR_ad {N : Nat} {l : List LN} {a b : Nat} {v : Val × Int32 × Int32} : dayR N l (a + b) v = dayR N l b (dayR N l a v) := by
  have h := dayR_eq (N := N) (l := l) (k := b) (S := (daysS N l a ((v.1, v.2.1, 0, 0, 0, 0), v.2.2)).1) (days := (daysS N l a ((v.1, v.2.1, 0, 0, 0, 0), v.2.2)).2)
  have e : dayR N l (a + b) v = ((daysS N l b (daysS N l a ((v.1, v.2.1, 0, 0, 0, 0), v.2.2))).1.1, (daysS N l b (daysS N l a ((v.1, v.2.1, 0, 0, 0, 0), v.2.2))).1.2.1, (daysS N l b (daysS N l a ((v.1, v.2.1, 0, 0, 0, 0), v.2.2))).2) := by
    rw [← daysS_ad]
    rfl
  rw [e]
  have h' : ∀ x : Val × Int32 × Int32, x = (x.1, x.2.1, x.2.2) := fun _ => rfl
  rw [h' (dayR N l b (dayR N l a v))]
  refine congr (congrArg Prod.mk h.1) (congr (congrArg Prod.mk h.2.1) h.2.2)
theorem daysS_d {N : Nat} {l : List LN} : ∀ (k : Nat) (x : GS × Int32), (daysS N l k x).2 = x.2 + nI k
  | 0, x => by
    show x.2 = x.2 + 0
    rw [Int32.add_zero]
  | k + 1, x => by
    rw [daysS, daysS_d k, nI_succ k]
    show x.2 + 1 + nI k = _
    rw [Int32.add_assoc, Int32.add_comm 1]
theorem dayR_d {N k : Nat} {l : List LN} {v : Val × Int32 × Int32} : (dayR N l k v).2.2 = v.2.2 + nI k := daysS_d k _
theorem duF_sp {N : Nat} {l : List LN} {t h : Int32} : ∀ (k : Nat) (x : Val × Int32 × Int32), ∃ j, j ≤ k ∧ duF N l t h k x = dayR N l j x ∧ (∀ i, i < j → hg N (dayR N l i x).1 t 6 1 0 < h) ∧ (j < k → ¬ hg N (dayR N l j x).1 t 6 1 0 < h)
  | 0, x => ⟨0, by omega, rfl, fun i hi => by omega, fun h => by omega⟩
  | k + 1, x => by
    rw [duF]
    by_cases hl : hg N x.1 t 6 1 0 < h
    · rw [if_pos hl]
      obtain ⟨j, a, b, c, d⟩ := duF_sp (N := N) (l := l) (t := t) (h := h) k (dayR N l 1 x)
      refine ⟨j + 1, by omega, ?_, fun i hi => ?_, fun hj => ?_⟩
      · rw [b, Nat.add_comm j 1, dayR_ad]
      · cases i with
        | zero => exact hl
        | succ i =>
          have := c i (by omega)
          rw [← dayR_ad, Nat.add_comm 1 i] at this
          exact this
      · have := d (by omega)
        rw [← dayR_ad, Nat.add_comm 1 j] at this
        exact this
    · rw [if_neg hl]
      exact ⟨0, by omega, rfl, fun i hi => by omega, fun _ => hl⟩
theorem oE_wt {N : Nat} : ∀ (k : Nat) (S : GS) (b : Nat), 1 ≤ b → b < k → gIn N b = true → wtb ((oE N k S).1 b) = false
  | 0, _, _, _, h, _ => by omega
  | k + 1, S, b, h1, h, hi => by
    rw [oE]
    by_cases hc : (decide (1 ≤ k) && gIn N k) = true
    · rw [if_pos hc]
      by_cases e : b = k
      · subst e
        obtain ⟨z1, z2⟩ := opS_z (N := N) (b := b) (S := oE N b S)
        unfold wtb
        rw [z1, z2]
        rfl
      · rw [opS_out e (by omega) (by omega)]
        exact oE_wt k S b h1 (by omega) hi
    · rw [if_neg hc]
      by_cases e : b = k
      · subst e
        rw [hi, Bool.and_true, decide_eq_true_eq] at hc
        omega
      · exact oE_wt k S b h1 (by omega) hi
theorem accI_z {P : Nat → Bool} : ∀ (k : Nat), (∀ b, b < k → P b = false) → accI P k = 0
  | 0, _ => rfl
  | k + 1, h => by
    rw [accI, accI_z k (fun b hb => h b (by omega)), h k (by omega)]
    rfl
theorem wtC_oE {N : Nat} {S : GS} (h2 : 2 ≤ N) (h32 : N ≤ 32) (hV : VI N S.1) : wtC N (oE N 64 S).1 = 0 := by
  unfold wtC
  refine accI_z 64 (fun b hb => ?_)
  by_cases h1 : 1 ≤ b
  · have : wtb ((oE N 64 S).1 b) = false := by
      cases hi : gIn N b with
      | true => exact oE_wt 64 S b h1 hb hi
      | false =>
        have := (VI_oE h2 h32 64 S hV b h1 hb).2.2 hi
        unfold wtb
        rw [this.1, this.2]
        rfl
    show (decide (1 ≤ b) && (gEx N b && wtb ((oE N 64 S).1 b))) = false
    rw [this, Bool.and_false, Bool.and_false]
  · show (decide (1 ≤ b) && (gEx N b && wtb ((oE N 64 S).1 b))) = false
    rw [decide_eq_false h1, Bool.false_and]
/-- how far below the branch 1 -/
def kd (b : Nat) : Nat := if b < 2 then 6 else if b < 4 then 5 else if b < 8 then 4 else if b < 16 then 3 else if b < 32 then 2 else 1
theorem kd_all : (List.range 64).all (fun b => decide (b = 0) || (decide (2 ^ (6 - kd b) ≤ b) && decide (kd b ≤ 6) && decide (1 ≤ kd b) && (decide (32 ≤ b) || (decide (kd (2 * b) + 1 = kd b) && decide (kd (2 * b + 1) + 1 = kd b))))) = true := by decide +kernel
theorem kd_at {b : Nat} (h1 : 1 ≤ b) (hb : b < 64) : 2 ^ (6 - kd b) ≤ b ∧ kd b ≤ 6 ∧ 1 ≤ kd b ∧ (b < 32 → kd (2 * b) + 1 = kd b ∧ kd (2 * b + 1) + 1 = kd b) := by
  have h := List.all_eq_true.mp kd_all b (List.mem_range.mpr hb)
  simp only [Bool.or_eq_true, Bool.and_eq_true, decide_eq_true_eq] at h
  rcases h with h | ⟨⟨⟨a, b'⟩, c⟩, d⟩
  · omega
  · refine ⟨a, b', c, fun hl => ?_⟩
    rcases d with d | d
    · omega
    · exact d
/-- what a branch tells of a terrace -/
def tl (N : Nat) (V : Val) (b t : Nat) : Int32 := hg N V (nI t) (kd b) b 0
theorem tl_in {N : Nat} {V : Val} {b t : Nat} (h2 : 2 ≤ N) (h32 : N ≤ 32) (hb1 : 1 ≤ b) (hb : b < 64) (hi : gIn N b = true) (ht : t < 1000) : tl N V b t = (if (V b).2.2.2.2.1 = 0 then tl N V (if t ≤ lb N (2 * b) then 2 * b else 2 * b + 1) t else (V b).2.2.2.2.2) + (V b).2.2.2.1 := by
  have hc := (geo_in h2 h32 hb hi).1
  obtain ⟨-, -, -, d⟩ := kd_at hb1 hb
  obtain ⟨d1, d2⟩ := d (by omega)
  unfold tl
  rw [← d1, hgN_in h2 h32 hb hi ht]
  refine congrArg (· + (V b).2.2.2.1) ?_
  split
  · split
    · rfl
    · rw [show kd (2 * b + 1) = kd (2 * b) by omega]
  · rfl
theorem tl_lf {N : Nat} {V : Val} {b t : Nat} (hi : gIn N b = false) : tl N V b t = (V b).2.1 := hgN_lf hi
theorem tl_1 {N : Nat} {V : Val} {t : Nat} : tl N V 1 t = ht N V t := rfl
theorem up_in {N b : Nat} (h2 : 2 ≤ N) (h32 : N ≤ 32) (hb : 2 ≤ b) (hb' : b < 64) (he : gEx N b = true) : gIn N (b / 2) = true := by
  cases h : gIn N (b / 2) with
  | true => rfl
  | false =>
    obtain ⟨a, c⟩ := geo_out h2 h32 (b := b / 2) (by omega) (by omega) h
    rcases Nat.mod_two_eq_zero_or_one b with e | e
    · rw [show 2 * (b / 2) = b by omega, he] at a
      cases a
    · rw [show 2 * (b / 2) + 1 = b by omega, he] at c
      cases c
theorem CB_at {N K : Nat} {V : Val} (h2 : 2 ≤ N) (h32 : N ≤ 32) (h : CB N V 6 K 1) : ∀ (b : Nat), 1 ≤ b → b < 64 → gEx N b = true → CB N V (kd b) K b := by
  intro b
  induction b using Nat.strongRecOn with
  | ind b ih =>
    intro h1 hb he
    by_cases e : b = 1
    · subst e
      exact h
    · have hi := up_in h2 h32 (by omega) hb he
      have hp := ih (b / 2) (by omega) (by omega) (by omega) (geo_in h2 h32 (by omega) hi).2.2.1
      obtain ⟨-, -, -, d⟩ := kd_at (b := b / 2) (by omega) (by omega)
      obtain ⟨d1, d2⟩ := d (by omega)
      rcases Nat.mod_two_eq_zero_or_one b with e | e
      · rw [show 2 * (b / 2) = b by omega] at d1
        rw [← d1] at hp
        have := (hp.2.2.2.1 hi).2.1
        rw [show 2 * (b / 2) = b by omega] at this
        exact CB_mono (by omega) this
      · rw [show 2 * (b / 2) + 1 = b by omega] at d2
        rw [← d2] at hp
        have := (hp.2.2.2.1 hi).2.2
        rw [show 2 * (b / 2) + 1 = b by omega] at this
        exact CB_mono (by omega) this
theorem GB_at {N K : Nat} {V : Val} (h2 : 2 ≤ N) (h32 : N ≤ 32) (h : GB N V 6 K 1) : ∀ (b : Nat), 1 ≤ b → b < 64 → gEx N b = true → GB N V (kd b) K b := by
  intro b
  induction b using Nat.strongRecOn with
  | ind b ih =>
    intro h1 hb he
    by_cases e : b = 1
    · subst e
      exact h
    · have hi := up_in h2 h32 (by omega) hb he
      have hp := ih (b / 2) (by omega) (by omega) (by omega) (geo_in h2 h32 (by omega) hi).2.2.1
      obtain ⟨-, -, -, d⟩ := kd_at (b := b / 2) (by omega) (by omega)
      obtain ⟨d1, d2⟩ := d (by omega)
      rcases Nat.mod_two_eq_zero_or_one b with e | e
      · rw [show 2 * (b / 2) = b by omega] at d1
        rw [← d1] at hp
        have := (hp.2.2.2.1 hi).2.1
        rw [show 2 * (b / 2) = b by omega] at this
        exact GB_mono (by omega) this
      · rw [show 2 * (b / 2) + 1 = b by omega] at d2
        rw [← d2] at hp
        have := (hp.2.2.2.1 hi).2.2
        rw [show 2 * (b / 2) + 1 = b by omega] at this
        exact GB_mono (by omega) this
