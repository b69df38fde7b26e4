/-! heights behind all that is done -/
def nwh (o x h : Int32) : Int32 := if o = -13 then h + x else if o = -14 then x else h
theorem hg_dO {N : Nat} {o x f l t : Int32} (h2 : 2 ≤ N) (h32 : N ≤ 32) : ∀ (k b : Nat) (S : GS), 1 ≤ b → b < 64 → 2 ^ (6 - k) ≤ b → k ≤ 6 → gEx N b = true → gF N b ≤ t → t ≤ gL N b → hg N (dn N o x f l k b S).1 t k b 0 = if f ≤ t ∧ t ≤ l then nwh o x (hg N S.1 t k b 0) else hg N S.1 t k b 0
  | 0, b, S, _, hb, hp, _, _, _, _ => by
    exfalso
    have : (2 : Nat) ^ (6 - 0) = 64 := rfl
    omega
  | k + 1, b, S, hb1, hb, hp, hk6, he, t1, t2 => by
    by_cases h : f ≤ gF N b ∧ gL N b ≤ l
    · rw [dn_re h, if_pos ⟨i32_le_tr h.1 t1, i32_le_tr t2 h.2⟩]
      have e0 : (rcS N o x b S).1 b = if o = -13 then tkR (gF N b) (gL N b) x (S.1 b) else if o = -14 then tkL (gF N b) (gL N b) x (S.1 b) else S.1 b := if_pos rfl
      unfold nwh
      by_cases h13 : o = -13
      · rw [if_pos h13] at e0
        rw [if_pos h13]
        exact hg_R (geo_lt h2 h32 hb) hb1 e0 (fun c _ hn => rcS_out hn)
      · rw [if_neg h13] at e0
        rw [if_neg h13]
        by_cases h14 : o = -14
        · rw [if_pos h14] at e0
          rw [if_pos h14]
          exact hg_L (V := S.1) (geo_lt h2 h32 hb) e0
        · rw [if_neg h14] at e0
          rw [if_neg h14]
          refine hg_cg (k + 1) b 0 (fun c _ => ?_)
          by_cases hc : c = b
          · rw [hc]
            exact e0
          · exact rcS_out hc
    · cases hi : gIn N b with
      | false =>
        rw [dn_lf h hi]
        have e : gF N b = gL N b := by
          refine i32_anti ((geo_le h2 h32 hb).mpr he) (fun z => ?_)
          rw [(geo_lt h2 h32 hb).mp z] at hi
          cases hi
        rw [if_neg]
        intro ⟨z1, z2⟩
        rw [← e] at t2
        have : t = gF N b := by
          rw [Int32.le_iff_toInt_le] at t1 t2
          exact Int32.toInt_inj.mp (by omega)
        rw [this] at z1 z2
        exact h ⟨z1, by rw [← e]; exact z2⟩
      | true =>
        obtain ⟨c1, c2, c3, c4, c5, c6, c7, c8, c9⟩ := geo_in h2 h32 hb hi
        rw [dn_in h hi]
        have z := opS_z (N := N) (b := b) (S := S)
        have eb : (dn3 N o x f l k b S).1 b = (opS N b S).1 b := (dn3_n (un_nb hb1).2).trans (dn2_n (un_nb hb1).1)
        have e0 : teV b (dn3 N o x f l k b S).1 b = tel ((dn3 N o x f l k b S).1 b) ((dn3 N o x f l k b S).1 (2 * b)) ((dn3 N o x f l k b S).1 (2 * b + 1)) := if_pos rfl
        have hr : (teV b (dn3 N o x f l k b S).1 b).2.2.2.1 = 0 := by rw [e0, eb]; exact z.1
        have hs : (teV b (dn3 N o x f l k b S).1 b).2.2.2.2.1 = 0 := by rw [e0, eb]; exact z.2
        have hpw : 2 ^ (6 - k) ≤ 2 * b ∧ 2 ^ (6 - k) ≤ 2 * b + 1 := by
          have e : 6 - k = (6 - (k + 1)) + 1 := by omega
          rw [e, Nat.pow_succ]
          omega
        rw [← hg_op (S := S) h2 h32 hb1 hb hi]
        show hg N (teV b (dn3 N o x f l k b S).1) t (k + 1) b 0 = _
        rw [hg, if_pos hi, hs, if_pos rfl, hr, Int32.add_zero]
        show hg N (teV b (dn3 N o x f l k b S).1) t k (chd N t b) 0 = _
        have hT : ∀ a, a = 2 * b ∨ a = 2 * b + 1 → hg N (teV b (dn3 N o x f l k b S).1) t k a 0 = hg N (dn3 N o x f l k b S).1 t k a 0 := fun a ha => hg_cg k a 0 (fun c hc => if_neg (by have := un_ge hc; omega))
        unfold chd
        by_cases ht : t ≤ gL N (2 * b)
        · rw [if_pos ht, hT _ (Or.inl rfl)]
          rw [hg_cg k (2 * b) 0 (V := (dn2 N o x f l k b S).1) (fun c hc => dn3_n (fun z => un_dj hb1 hc z))]
          have tt : gF N (2 * b) ≤ t := by rw [c4]; exact t1
          unfold dn2
          by_cases hx : tch N f l (2 * b) = true
          · rw [if_pos hx, hg_dO h2 h32 k (2 * b) _ (by omega) (by omega) hpw.1 (by omega) c8 tt ht]
          · rw [if_neg hx]
            unfold tch at hx
            rw [if_neg (i32_pick (by simpa using hx) tt ht)]
        · rw [if_neg ht, hT _ (Or.inr rfl)]
          have tt : gF N (2 * b + 1) ≤ t := by
            rw [c6, ← c5]
            exact i32_suc (i32_nle ht)
          have tt2 : t ≤ gL N (2 * b + 1) := by rw [c7]; exact t2
          have hq : hg N (dn2 N o x f l k b S).1 t k (2 * b + 1) 0 = hg N (opS N b S).1 t k (2 * b + 1) 0 := hg_cg k (2 * b + 1) 0 (fun c hc => dn2_n (fun z => un_dj hb1 z hc))
          unfold dn3
          by_cases hx : tch N f l (2 * b + 1) = true
          · rw [if_pos hx, hg_dO h2 h32 k (2 * b + 1) _ (by omega) (by omega) hpw.2 (by omega) c9 tt tt2, hq]
          · rw [if_neg hx, hq]
            unfold tch at hx
            rw [if_neg (i32_pick (by simpa using hx) tt tt2)]
def ht (N : Nat) (V : Val) (t : Nat) : Int32 := hg N V (nI t) 6 1 0
theorem ht_ex {N t : Nat} (h2 : 2 ≤ N) (h32 : N ≤ 32) (ht' : t < N) : gF N 1 ≤ nI t ∧ nI t ≤ gL N 1 := by
  obtain ⟨e1, e2, -, -, -⟩ := fl_ex h2 h32 (b := 1) (by omega) (gEx_1 h2 h32)
  obtain ⟨f1, f2⟩ := fl_1 h2 h32
  rw [e1, e2, f1, f2]
  exact ⟨(nI_leq (by omega) (by omega)).mpr (by omega), (nI_leq (by omega) (by omega)).mpr (by omega)⟩
theorem ht_goS {N : Nat} {o x : Int32} {S : GS} {f l t : Nat} (h2 : 2 ≤ N) (h32 : N ≤ 32) (hf : f < N) (hl : l < N) (ht' : t < N) : ht N (goS N o x (nI f) (nI l) S).1 t = if f ≤ t ∧ t ≤ l then nwh o x (ht N S.1 t) else ht N S.1 t := by
  have hx := ht_ex h2 h32 ht'
  have h := hg_dO (o := o) (x := x) (f := nI f) (l := nI l) (t := nI t) h2 h32 6 1 (S.1, S.2.1, 0, 0, S.2.2.2.2) (by omega) (by omega) (by omega) (by omega) (gEx_1 h2 h32) hx.1 hx.2
  have e : (nI f ≤ nI t ∧ nI t ≤ nI l) ↔ (f ≤ t ∧ t ≤ l) := by rw [nI_leq (by omega) (by omega), nI_leq (by omega) (by omega)]
  unfold ht goS
  rw [h]
  by_cases c : f ≤ t ∧ t ≤ l
  · rw [if_pos c, if_pos (e.mpr c)]
  · rw [if_neg c, if_neg (fun z => c (e.mp z))]
theorem opS_c {N b : Nat} {S : GS} : ∀ c, c ≠ b → c ≠ 2 * b → c ≠ 2 * b + 1 → (opS N b S).1 c = S.1 c := fun c a b d => opS_out a b d
theorem hg_opA {N : Nat} {S : GS} {b : Nat} {t : Int32} (h2 : 2 ≤ N) (h32 : N ≤ 32) (hb : b < 64) (hi : gIn N b = true) : ∀ (k b0 : Nat), 1 ≤ b0 → b0 < 64 → 2 ^ (6 - k) ≤ b0 → k ≤ 6 → un b0 b → hg N (opS N b S).1 t k b0 0 = hg N S.1 t k b0 0
  | 0, b0, _, hb', hp, _, _ => by
    exfalso
    have : (2 : Nat) ^ (6 - 0) = 64 := rfl
    omega
  | k + 1, b0, h0, hb', hp, hk, hu => by
    have hpw : 2 ^ (6 - k) ≤ 2 * b0 ∧ 2 ^ (6 - k) ≤ 2 * b0 + 1 := by
      have e : 6 - k = (6 - (k + 1)) + 1 := by omega
      rw [e, Nat.pow_succ]
      omega
    by_cases e : b = b0
    · subst e
      obtain ⟨z1, z2⟩ := opS_z (N := N) (b := b) (S := S)
      rw [← hg_op (S := S) h2 h32 h0 hb hi, hg, if_pos hi, if_pos z2, z1, Int32.add_zero]
      rfl
    · by_cases hi0 : gIn N b0 = true
      · have hge := un_ge hu
        have hc := (geo_in h2 h32 hb' hi0).1
        have e0 : (opS N b S).1 b0 = S.1 b0 := opS_out (by omega) (by omega) (by omega)
        rw [hg, hg, e0, if_pos hi0, if_pos hi0]
        split
        · rw [hg_add, hg_add k _ (0 + (S.1 b0).2.2.2.1)]
          refine congrArg (· + (0 + (S.1 b0).2.2.2.1)) ?_
          split
          · rcases un_up hu e with u | u
            · exact hg_opA h2 h32 hb hi k (2 * b0) (by omega) (by omega) hpw.1 (by omega) u
            · exact hg_cg k _ 0 (fun c hc => opS_out (fun z => un_dj h0 hc (by rw [z]; exact u)) (fun z => un_dj h0 hc (by rw [z]; exact (un_2 u).1)) (fun z => un_dj h0 hc (by rw [z]; exact (un_2 u).2)))
          · rcases un_up hu e with u | u
            · exact hg_cg k _ 0 (fun c hc => opS_out (fun z => un_dj h0 (by rw [z]; exact u) hc) (fun z => un_dj h0 (by rw [z]; exact (un_2 u).1) hc) (fun z => un_dj h0 (by rw [z]; exact (un_2 u).2) hc))
            · exact hg_opA h2 h32 hb hi k (2 * b0 + 1) (by omega) (by omega) hpw.2 (by omega) u
        · rfl
      · have hge := un_ge hu
        have e0 : (opS N b S).1 b0 = S.1 b0 := opS_out (by omega) (by omega) (by omega)
        rw [hgN_lf (by simpa using hi0), hgN_lf (by simpa using hi0), e0]
theorem ht_op {N : Nat} {S : GS} {b t : Nat} (h2 : 2 ≤ N) (h32 : N ≤ 32) (hb1 : 1 ≤ b) (hb : b < 64) (hi : gIn N b = true) : ht N (opS N b S).1 t = ht N S.1 t := hg_opA h2 h32 hb hi 6 1 (by omega) (by omega) (by omega) (by omega) (un_1 hb1 hb)
theorem ht_ff {N : Nat} {h : Int32} {t : Nat} (h2 : 2 ≤ N) (h32 : N ≤ 32) : ∀ (k b : Nat) (S : GS), 1 ≤ b → b < 64 → ht N (ff N h k b S).2.1 t = ht N S.1 t
  | 0, b, S, _, _ => rfl
  | k + 1, b, S, h1, hb => by
    rw [ff]
    by_cases hi : gIn N b = true
    · rw [if_pos hi]
      have hc := (geo_in h2 h32 hb hi).1
      rw [ht_ff h2 h32 k _ _ (by split <;> omega) (by split <;> omega), ht_op h2 h32 h1 hb hi]
    · rw [if_neg hi]
theorem ht_ffS {N : Nat} {h : Int32} {S : GS} {t : Nat} (h2 : 2 ≤ N) (h32 : N ≤ 32) : ht N (ffS N h S).2.1 t = ht N S.1 t := by
  unfold ffS
  split
  · rfl
  · exact ht_ff h2 h32 6 1 S (by omega) (by omega)
theorem ht_oE {N t : Nat} (h2 : 2 ≤ N) (h32 : N ≤ 32) : ∀ (k : Nat) (S : GS), k ≤ 64 → ht N (oE N k S).1 t = ht N S.1 t
  | 0, S, _ => rfl
  | k + 1, S, hk => by
    rw [oE]
    split
    · rename_i hi
      simp only [Bool.and_eq_true, decide_eq_true_eq] at hi
      rw [ht_op h2 h32 hi.1 (by omega) hi.2, ht_oE h2 h32 k S (by omega)]
    · exact ht_oE h2 h32 k S (by omega)
