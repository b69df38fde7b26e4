/-! the best shower: heights behind a shower; the least of them is what the branch 1 tells -/
def chd (N : Nat) (t : Int32) (b : Nat) : Nat := if t ≤ gL N (2 * b) then 2 * b else 2 * b + 1
theorem chd_in {N b : Nat} {t : Int32} : chd N t b = 2 * b ∨ chd N t b = 2 * b + 1 := by
  unfold chd
  split
  · exact Or.inl rfl
  · exact Or.inr rfl
theorem chd_geo {N b : Nat} {t : Int32} (h2 : 2 ≤ N) (h32 : N ≤ 32) (hb : b < 64) (hi : gIn N b = true) : chd N t b < 64 ∧ gEx N (chd N t b) = true ∧ chd N t b / 2 = b ∧ 2 * b ≤ chd N t b := by
  obtain ⟨a1, a2, a3, a4, a5, a6, a7, a8, a9⟩ := geo_in h2 h32 hb hi
  rcases @chd_in N b t with e | e
  · rw [e]
    exact ⟨by omega, a8, by omega, by omega⟩
  · rw [e]
    exact ⟨by omega, a9, by omega, by omega⟩
theorem hg_add {N : Nat} {V : Val} {t : Int32} : ∀ (k b : Nat) (r : Int32), hg N V t k b r = hg N V t k b 0 + r
  | 0, b, r => by rw [hg, hg, Int32.add_zero]
  | k + 1, b, r => by
    rw [hg, hg]
    split
    · split
      · rw [hg_add k _ (r + (V b).2.2.2.1), hg_add k _ (0 + (V b).2.2.2.1), Int32.zero_add, Int32.add_comm r, Int32.add_assoc]
      · rw [Int32.add_zero]
    · rw [Int32.add_zero]
theorem hg_cg {N : Nat} {V V' : Val} {t : Int32} : ∀ (k b : Nat) (r : Int32), (∀ c, un b c → V' c = V c) → hg N V' t k b r = hg N V t k b r
  | 0, b, r, e => by rw [hg, hg, e b (un_rf b)]
  | k + 1, b, r, e => by
    rw [hg, hg, e b (un_rf b)]
    split
    · split
      · refine hg_cg k _ _ ?_
        split
        · exact fun c hc => e c (un_l hc)
        · exact fun c hc => e c (un_r hc)
      · rfl
    · rfl
theorem hg_R {N : Nat} {V V' : Val} {t x f l : Int32} {k b : Nat} (hfl : f < l ↔ gIn N b = true) (hb1 : 1 ≤ b) (e0 : V' b = tkR f l x (V b)) (ec : ∀ c, un b c → c ≠ b → V' c = V c) : hg N V' t k b 0 = hg N V t k b 0 + x := by
  have hr : (V' b).2.2.2.1 = if f < l then (V b).2.2.2.1 + x else (V b).2.2.2.1 := by rw [e0]; rfl
  have hh : (V' b).2.1 = (V b).2.1 + x := by rw [e0]; rfl
  have hv : (V' b).2.2.2.2.2 = (V b).2.2.2.2.2 := by rw [e0]; rfl
  have hs : (V' b).2.2.2.2.1 = (V b).2.2.2.2.1 := by rw [e0]; rfl
  cases k with
  | zero => rw [hg, hg, hh, Int32.add_zero, Int32.add_zero]
  | succ k =>
    rw [hg, hg, hs, hv, hh]
    by_cases hi : gIn N b = true
    · rw [if_pos hi, if_pos hi]
      rw [if_pos (hfl.mpr hi)] at hr
      rw [hr]
      split
      · rw [hg_add k _ (0 + ((V b).2.2.2.1 + x)), hg_add k _ (0 + (V b).2.2.2.1)]
        rw [hg_cg k _ 0 (V := V) (V' := V') (by
          split
          · exact fun c hc => ec c (un_l hc) (by have := un_ge hc; omega)
          · exact fun c hc => ec c (un_r hc) (by have := un_ge hc; omega))]
        rw [Int32.zero_add, Int32.zero_add, Int32.add_assoc]
      · rw [Int32.add_zero, Int32.add_zero, Int32.add_assoc]
    · rw [if_neg hi, if_neg hi, Int32.add_zero, Int32.add_zero]
theorem hg_L {N : Nat} {V V' : Val} {t x f l : Int32} {k b : Nat} (hfl : f < l ↔ gIn N b = true) (e0 : V' b = tkL f l x (V b)) : hg N V' t k b 0 = x := by
  have hr : (V' b).2.2.2.1 = if f < l then 0 else (V b).2.2.2.1 := by rw [e0]; rfl
  have hh : (V' b).2.1 = x := by rw [e0]; rfl
  have hv : (V' b).2.2.2.2.2 = if f < l then x else (V b).2.2.2.2.2 := by rw [e0]; rfl
  have hs : (V' b).2.2.2.2.1 = if f < l then 1 else (V b).2.2.2.2.1 := by rw [e0]; rfl
  cases k with
  | zero => rw [hg, hh, Int32.add_zero]
  | succ k =>
    rw [hg]
    by_cases hi : gIn N b = true
    · have hlt := hfl.mpr hi
      rw [if_pos hlt] at hr hv hs
      rw [if_pos hi, hs, if_neg (by decide), hv, hr, Int32.add_zero, Int32.add_zero]
    · rw [if_neg hi, hh, Int32.add_zero]
theorem hg_chl {N : Nat} {V V' : Val} {t : Int32} {k a : Nat} {β : BS} (h2 : 2 ≤ N) (h32 : N ≤ 32) (ha1 : 1 ≤ a) (ha : a < 64) (e0 : V' a = chl (gF N a) (gL N a) β (V a)) (ec : ∀ c, un a c → c ≠ a → V' c = V c) : hg N V' t k a 0 = (if β.2.2.2.2.1 = 0 then hg N V t k a 0 else β.2.2.2.2.2) + β.2.2.2.1 := by
  unfold chl at e0
  by_cases h0 : β.2.2.2.2.1 = 0
  · rw [if_pos h0] at e0 ⊢
    exact hg_R (geo_lt h2 h32 ha) ha1 e0 ec
  · rw [if_neg h0] at e0 ⊢
    rw [hg_R (V := fun c => if c = a then tkL (gF N a) (gL N a) β.2.2.2.2.2 (V a) else V c) (geo_lt h2 h32 ha) ha1 (by rw [e0, if_pos rfl]) (fun c hc hn => by rw [if_neg hn]; exact ec c hc hn)]
    rw [hg_L (V := V) (geo_lt h2 h32 ha) (if_pos rfl)]
theorem hg_op {N : Nat} {S : GS} {t : Int32} {k b : Nat} (h2 : 2 ≤ N) (h32 : N ≤ 32) (hb1 : 1 ≤ b) (hb : b < 64) (hi : gIn N b = true) : hg N (opS N b S).1 t k (chd N t b) 0 = hg N S.1 t (k + 1) b 0 := by
  have hc := (geo_in h2 h32 hb hi).1
  rw [hg, if_pos hi]
  show _ = if (S.1 b).2.2.2.2.1 = 0 then hg N S.1 t k (chd N t b) (0 + (S.1 b).2.2.2.1) else (S.1 b).2.2.2.2.2 + (S.1 b).2.2.2.1 + 0
  unfold opS
  by_cases hw : wtb (S.1 b) = true
  · rw [if_pos hw]
    have hE : opV N b S.1 (chd N t b) = chl (gF N (chd N t b)) (gL N (chd N t b)) (S.1 b) (S.1 (chd N t b)) := by
      have hcd := chd_in (N := N) (t := t) (b := b)
      unfold opV
      rw [if_neg (by omega), if_pos hcd]
    have hO : ∀ c, un (chd N t b) c → c ≠ chd N t b → opV N b S.1 c = S.1 c := by
      intro c hu hn
      rcases chd_in (N := N) (t := t) (b := b) with e | e
      · rw [e] at hu hn
        exact opV_out (by have := un_ge hu; omega) hn (fun e => un_dj hb1 hu (by rw [e]; exact un_rf _))
      · rw [e] at hu hn
        exact opV_out (by have := un_ge hu; omega) (by have := un_ge hu; omega) hn
    have hcd := chd_in (N := N) (t := t) (b := b)
    show hg N (opV N b S.1) t k (chd N t b) 0 = _
    rw [hg_chl h2 h32 (by omega) (by omega) hE hO, Int32.zero_add, Int32.add_zero]
    split
    · exact (hg_add k _ _).symm
    · rfl
  · rw [if_neg hw]
    unfold wtb at hw
    simp only [Bool.or_eq_true, decide_eq_true_eq, not_or, Decidable.not_not] at hw
    rw [if_pos hw.1, hw.2, Int32.zero_add]
theorem i32_pick {f l t F L : Int32} (h : ¬ (F ≤ l ∧ f ≤ L)) (h1 : F ≤ t) (h2 : t ≤ L) : ¬ (f ≤ t ∧ t ≤ l) := by
  intro ⟨h3, h4⟩
  rw [Int32.le_iff_toInt_le] at h1 h2 h3 h4
  exact h ⟨by rw [Int32.le_iff_toInt_le]; omega, by rw [Int32.le_iff_toInt_le]; omega⟩
theorem hg_dn {N : Nat} {x f l t : Int32} (h2 : 2 ≤ N) (h32 : N ≤ 32) : ∀ (k b : Nat) (S : GS), 1 ≤ b → b < 64 → 2 ^ (6 - k) ≤ b → k ≤ 6 → gEx N b = true → gF N b ≤ t → t ≤ gL N b → hg N (dn N (-13) x f l k b S).1 t k b 0 = hg N S.1 t k b 0 + (if f ≤ t ∧ t ≤ l then x else 0)
  | 0, b, S, _, hb, hp, _, _, _, _ => by
    exfalso
    have : (2 : Nat) ^ (6 - 0) = 64 := rfl
    omega
  | k + 1, b, S, hb1, hb, hp, hk6, he, t1, t2 => by
    by_cases h : f ≤ gF N b ∧ gL N b ≤ l
    · rw [dn_re h, if_pos ⟨i32_le_tr h.1 t1, i32_le_tr t2 h.2⟩]
      refine hg_R (geo_lt h2 h32 hb) hb1 ?_ (fun c _ hn => rcS_out hn)
      show rcV N (-13) x b S.1 b = _
      unfold rcV
      rw [if_pos rfl, if_pos rfl]
    · cases hi : gIn N b with
      | false =>
        rw [dn_lf h hi]
        have e : gF N b = gL N b := by
          refine i32_anti ((geo_le h2 h32 hb).mpr he) (fun z => ?_)
          rw [(geo_lt h2 h32 hb).mp z] at hi
          cases hi
        rw [if_neg, Int32.add_zero]
        intro ⟨z1, z2⟩
        rw [← e] at t2
        have : t = gF N b := by
          rw [Int32.le_iff_toInt_le] at t1 t2
          exact Int32.toInt_inj.mp (by omega)
        rw [this] at z1 z2
        exact h ⟨z1, by rw [← e]; exact z2⟩
      | true =>
        obtain ⟨c1, c2, c3, c4, c5, c6, c7, c8, c9⟩ := geo_in h2 h32 hb hi
        rw [dn_in h hi]
        have z := opS_z (N := N) (b := b) (S := S)
        have eb : (dn3 N (-13) x f l k b S).1 b = (opS N b S).1 b := (dn3_n (un_nb hb1).2).trans (dn2_n (un_nb hb1).1)
        have e0 : teV b (dn3 N (-13) x f l k b S).1 b = tel ((dn3 N (-13) x f l k b S).1 b) ((dn3 N (-13) x f l k b S).1 (2 * b)) ((dn3 N (-13) x f l k b S).1 (2 * b + 1)) := if_pos rfl
        have hr : (teV b (dn3 N (-13) x f l k b S).1 b).2.2.2.1 = 0 := by rw [e0, eb]; exact z.1
        have hs : (teV b (dn3 N (-13) x f l k b S).1 b).2.2.2.2.1 = 0 := by rw [e0, eb]; exact z.2
        have hpw : 2 ^ (6 - k) ≤ 2 * b ∧ 2 ^ (6 - k) ≤ 2 * b + 1 := by
          have e : 6 - k = (6 - (k + 1)) + 1 := by omega
          rw [e, Nat.pow_succ]
          omega
        rw [← hg_op (S := S) h2 h32 hb1 hb hi]
        show hg N (teV b (dn3 N (-13) x f l k b S).1) t (k + 1) b 0 = _
        rw [hg, if_pos hi, hs, if_pos rfl, hr, Int32.add_zero]
        show hg N (teV b (dn3 N (-13) x f l k b S).1) t k (chd N t b) 0 = _
        have hT : ∀ a, a = 2 * b ∨ a = 2 * b + 1 → hg N (teV b (dn3 N (-13) x f l k b S).1) t k a 0 = hg N (dn3 N (-13) x f l k b S).1 t k a 0 := fun a ha => hg_cg k a 0 (fun c hc => if_neg (by have := un_ge hc; omega))
        unfold chd
        by_cases ht : t ≤ gL N (2 * b)
        · rw [if_pos ht, hT _ (Or.inl rfl)]
          rw [hg_cg k (2 * b) 0 (V := (dn2 N (-13) x f l k b S).1) (fun c hc => dn3_n (fun z => un_dj hb1 hc z))]
          have tt : gF N (2 * b) ≤ t := by rw [c4]; exact t1
          unfold dn2
          by_cases hx : tch N f l (2 * b) = true
          · rw [if_pos hx, hg_dn h2 h32 k (2 * b) _ (by omega) (by omega) hpw.1 (by omega) c8 tt ht]
          · rw [if_neg hx]
            unfold tch at hx
            rw [if_neg (i32_pick (by simpa using hx) tt ht), Int32.add_zero]
        · rw [if_neg ht, hT _ (Or.inr rfl)]
          have tt : gF N (2 * b + 1) ≤ t := by
            rw [c6, ← c5]
            exact i32_suc (i32_nle ht)
          have tt2 : t ≤ gL N (2 * b + 1) := by rw [c7]; exact t2
          have hq : hg N (dn2 N (-13) x f l k b S).1 t k (2 * b + 1) 0 = hg N (opS N b S).1 t k (2 * b + 1) 0 := hg_cg k (2 * b + 1) 0 (fun c hc => dn2_n (fun z => un_dj hb1 z hc))
          unfold dn3
          by_cases hx : tch N f l (2 * b + 1) = true
          · rw [if_pos hx, hg_dn h2 h32 k (2 * b + 1) _ (by omega) (by omega) hpw.2 (by omega) c9 tt tt2, hq]
          · rw [if_neg hx, hq]
            unfold tch at hx
            rw [if_neg (i32_pick (by simpa using hx) tt tt2), Int32.add_zero]
theorem hg_bd {N : Nat} {V : Val} {t : Int32} : ∀ {k K b : Nat}, GB N V k K b → na (hg N V t k b 0) ≤ K + 999
  | 0, _, _, h => h.elim
  | k + 1, K, b, ⟨h1, h2, h3, h4, h5⟩ => by
    rw [hg]
    by_cases hi : gIn N b = true
    · obtain ⟨g1, g2, g3⟩ := h4 hi
      rw [if_pos hi]
      split
      · rw [hg_add, Int32.zero_add]
        split
        · have := hg_bd (t := t) g2
          have := na_add (hg N V t k (2 * b) 0) (V b).2.2.2.1
          omega
        · have := hg_bd (t := t) g3
          have := na_add (hg N V t k (2 * b + 1) 0) (V b).2.2.2.1
          omega
      · rw [Int32.add_zero]
        have := na_add (V b).2.2.2.2.2 (V b).2.2.2.1
        omega
    · rw [if_neg hi, Int32.add_zero, h5 (by simpa using hi)]
      exact h2
theorem i32_add_le {a b r : Int32} (h : a ≤ b) (ha : na a + na r < 2147483648) (hb : na b + na r < 2147483648) : a + r ≤ b + r := by
  rw [Int32.le_iff_toInt_le] at h ⊢
  rw [na_ta ha, na_ta hb]
  omega
theorem imin_le {a b : Int32} : imin a b ≤ a ∧ imin a b ≤ b ∧ (imin a b = a ∨ imin a b = b) := by
  unfold imin
  by_cases h : b < a
  · rw [if_pos h]
    rw [Int32.lt_iff_toInt_lt] at h
    exact ⟨by rw [Int32.le_iff_toInt_le]; omega, by rw [Int32.le_iff_toInt_le]; omega, Or.inr rfl⟩
  · rw [if_neg h]
    rw [Int32.lt_iff_toInt_lt] at h
    exact ⟨by rw [Int32.le_iff_toInt_le]; omega, by rw [Int32.le_iff_toInt_le]; omega, Or.inl rfl⟩
theorem i32_le_rf {a : Int32} : a ≤ a := by
  rw [Int32.le_iff_toInt_le]
  omega
def gLF (N b : Nat) : Bool := !gIn N b || decide (gL N (2 * b) < gF N (2 * b + 1))
theorem gLF_all : (List.range 33).all (fun N => decide (N < 2) || (List.range 64).all (fun b => gLF N b)) = true := by decide +kernel
theorem gLF_at {N b : Nat} (h2 : 2 ≤ N) (h32 : N ≤ 32) (hb : b < 64) : gLF N b = true := by
  have h := List.all_eq_true.mp gLF_all N (List.mem_range.mpr (by omega))
  simp only [Bool.or_eq_true, decide_eq_true_eq] at h
  exact List.all_eq_true.mp (h.resolve_left (by omega)) b (List.mem_range.mpr hb)
theorem hg_min {N : Nat} {V : Val} (h2 : 2 ≤ N) (h32 : N ≤ 32) : ∀ (k K b : Nat), 1 ≤ b → b < 64 → gEx N b = true → K < 900000000 → GB N V k K b → (∀ t, gF N b ≤ t → t ≤ gL N b → (V b).2.2.1 ≤ hg N V t k b 0) ∧ ∃ t, gF N b ≤ t ∧ t ≤ gL N b ∧ hg N V t k b 0 = (V b).2.2.1
  | 0, _, _, _, _, _, _, h => h.elim
  | k + 1, K, b, hb1, hb, he, hK, hG => by
    obtain ⟨h1, h2', h3, h4, h5⟩ := hG
    have hFL := (geo_le h2 h32 hb).mpr he
    by_cases hi : gIn N b = true
    · obtain ⟨g1, g2, g3⟩ := h4 hi
      obtain ⟨c1, c2, c3, c4, c5, c6, c7, c8, c9⟩ := geo_in h2 h32 hb hi
      unfold LC at g1
      by_cases h0 : (V b).2.2.2.2.1 = 0
      · rw [if_pos h0] at g1
        have eh : ∀ t, hg N V t (k + 1) b 0 = hg N V t k (if t ≤ gL N (2 * b) then 2 * b else 2 * b + 1) 0 + (V b).2.2.2.1 := fun t => by
          rw [hg, if_pos hi, if_pos h0, hg_add, Int32.zero_add]
        obtain ⟨m1, t1, p1, p2, p3⟩ := hg_min h2 h32 k _ (2 * b) (by omega) (by omega) c8 (by omega) g2
        obtain ⟨m2, t2, q1, q2, q3⟩ := hg_min h2 h32 k _ (2 * b + 1) (by omega) (by omega) c9 (by omega) g3
        obtain ⟨i1, i2, i3⟩ := imin_le (a := (V (2 * b)).2.2.1) (b := (V (2 * b + 1)).2.2.1)
        have b1 := GB_low g2
        have b2 := GB_low g3
        have b3 := na_imin b1 b2
        refine ⟨fun t ht1 ht2 => ?_, ?_⟩
        · rw [eh, g1]
          by_cases ht : t ≤ gL N (2 * b)
          · rw [if_pos ht]
            have := hg_bd (t := t) g2
            exact i32_add_le (i32_le_tr i1 (m1 t (by rw [c4]; exact ht1) ht)) (by omega) (by omega)
          · rw [if_neg ht]
            have := hg_bd (t := t) g3
            exact i32_add_le (i32_le_tr i2 (m2 t (by rw [c6, ← c5]; exact i32_suc (i32_nle ht)) (by rw [c7]; exact ht2))) (by omega) (by omega)
        · have o1 : gL N (2 * b) < gF N (2 * b + 1) := by
            have k1 := (geo_le h2 h32 (b := 2 * b + 1) c1).mpr c9
            have k2 := (geo_le h2 h32 (b := 2 * b) (by omega)).mpr c8
            have ho : ∀ b, b < 64 → gIn N b = true → gL N (2 * b) < gF N (2 * b + 1) := fun b hb hi => by
              have := gLF_at h2 h32 hb
              unfold gLF at this
              rw [hi] at this
              simpa using this
            exact ho b hb hi
          rw [Int32.lt_iff_toInt_lt] at o1
          rcases i3 with i3 | i3
          · refine ⟨t1, by rw [← c4]; exact p1, ?_, ?_⟩
            · have k1 := (geo_le h2 h32 (b := 2 * b + 1) c1).mpr c9
              rw [c7] at k1
              rw [Int32.le_iff_toInt_le] at p2 k1 ⊢
              omega
            · rw [eh, if_pos p2, p3, g1, i3]
          · refine ⟨t2, ?_, by rw [← c7]; exact q2, ?_⟩
            · have k2 := (geo_le h2 h32 (b := 2 * b) (by omega)).mpr c8
              rw [c4] at k2
              rw [Int32.le_iff_toInt_le] at q1 k2 ⊢
              omega
            · rw [eh, if_neg (fun z => by rw [Int32.le_iff_toInt_le] at z q1; omega), q3, g1, i3]
      · rw [if_neg h0] at g1
        have eh : ∀ t, hg N V t (k + 1) b 0 = (V b).2.2.1 := fun t => by
          rw [hg, if_pos hi, if_neg h0, Int32.add_zero, g1]
        exact ⟨fun t _ _ => by rw [eh]; exact i32_le_rf, gF N b, i32_le_rf, hFL, eh _⟩
    · have eh : ∀ t, hg N V t (k + 1) b 0 = (V b).2.2.1 := fun t => by
        rw [hg, if_neg hi, Int32.add_zero, h5 (by simpa using hi)]
      exact ⟨fun t _ _ => by rw [eh]; exact i32_le_rf, gF N b, i32_le_rf, hFL, eh _⟩
