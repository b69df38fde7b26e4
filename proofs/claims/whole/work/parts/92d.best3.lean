/-! the best shower: both sides; the bounds are kept -/
theorem nI_ti {n : Nat} (h : n < 1000) : (nI n).toInt = n := Int32.toInt_ofNat_of_lt (by omega)
theorem GB_goS {N : Nat} {o x f t : Int32} {S : GS} {K : Nat} (h2 : 2 ≤ N) (h32 : N ≤ 32) (hx : na x ≤ 999) (hK : K < 900000000) (h : GB N S.1 6 K 1) : GB N (goS N o x f t S).1 6 (K + 999) 1 := GB_dn h2 h32 hx 6 1 (S.1, S.2.1, 0, 0, S.2.2.2.2) K (by omega) (by omega) hK h
theorem GB_go {N : Nat} {o x f t pu : Int32} {V : Val} {K : Nat} (h2 : 2 ≤ N) (h32 : N ≤ 32) (hx : na x ≤ 999) (hK : K < 900000000) (h : GB N V 6 K 1) : GB N (goR N o x f t V pu).1 6 (K + 999) 1 := GB_goS (S := (V, pu, 0, 0, 0, 0)) h2 h32 hx hK h
theorem GB_ord {N : Nat} {o a f g w : Int32} {S : GS} {K : Nat} (h2 : 2 ≤ N) (h32 : N ≤ 32) (hK : K < 900000000) (h : GB N S.1 6 K 1) : GB N (ordS N o a f g w S).1 6 (K + 999) 1 := by
  unfold ordS
  split
  · exact GB_mono (by omega) h
  · exact GB_goS h2 h32 na_held hK h
theorem GB_lines {N : Nat} {days : Int32} (h2 : 2 ≤ N) (h32 : N ≤ 32) : ∀ (l : List LN) (S : GS) (K : Nat), K + 999 * l.length < 900000000 → GB N S.1 6 K 1 → GB N (l.foldl (lnE N days) S).1 6 (K + 999 * l.length) 1
  | [], S, K, _, h => GB_mono (by omega) h
  | ln :: l, S, K, hK, h => by
    rw [List.length_cons] at hK ⊢
    have := GB_lines (days := days) h2 h32 l (lnE N days S ln) (K + 999) (by omega) (GB_ord h2 h32 (by omega) h)
    rw [List.foldl_cons]
    exact GB_mono (by omega) this
theorem GB_days {N : Nat} {l : List LN} (h2 : 2 ≤ N) (h32 : N ≤ 32) (hl : l.length ≤ 16) : ∀ (k : Nat) (x : GS × Int32) (K : Nat), K + 15984 * k < 900000000 → GB N x.1.1 6 K 1 → GB N (daysS N l k x).1.1 6 (K + 15984 * k) 1
  | 0, x, K, _, h => GB_mono (by omega) h
  | k + 1, x, K, hK, h => by
    have := GB_days h2 h32 hl k (dayS N l x) (K + 15984) (by omega) (GB_mono (by omega) (GB_lines h2 h32 l x.1 K (by omega) h))
    rw [daysS]
    exact GB_mono (by omega) this
theorem GB_dayR {N k K : Nat} {l : List LN} {v : Val × Int32 × Int32} (h2 : 2 ≤ N) (h32 : N ≤ 32) (hl : l.length ≤ 16) (hk : k ≤ 30) (hK : K < 800000000) (h : GB N v.1 6 K 1) : GB N (dayR N l k v).1 6 (K + 479520) 1 := GB_mono (by omega) (GB_days h2 h32 hl k ((v.1, v.2.1, 0, 0, 0, 0), v.2.2) K (by omega) h)
theorem opS_low {N b c : Nat} {S : GS} (h1 : c ≠ 2 * b) (h2 : c ≠ 2 * b + 1) : ((opS N b S).1 c).2.2.1 = (S.1 c).2.2.1 := by
  by_cases e : c = b
  · rw [e]
    unfold opS
    split
    · show (opV N b S.1 b).2.2.1 = _
      unfold opV
      rw [if_pos rfl]
      rfl
    · rfl
  · rw [opS_out e h1 h2]
theorem GB_opAt {N : Nat} {S : GS} {b : Nat} (h2 : 2 ≤ N) (h32 : N ≤ 32) (hb : b < 64) (hi : gIn N b = true) : ∀ (k K b0 : Nat), 1 ≤ b0 → un b0 b → K < 1000000000 → GB N S.1 k K b0 → GB N (opS N b S).1 k K b0
  | 0, _, _, _, _, _, h => h.elim
  | k + 1, K, b0, h0, hu, hK, hG => by
    by_cases e : b = b0
    · rw [e] at hb hi ⊢
      exact GB_opS h2 h32 h0 hb hi hK hG
    · obtain ⟨g1, g2, g3, g4, g5⟩ := hG
      have hge := un_ge hu
      have e0 : (opS N b S).1 b0 = S.1 b0 := opS_out (by omega) (by omega) (by omega)
      refine ⟨by rw [e0]; exact g1, by rw [e0]; exact g2, by rw [e0]; exact g3, fun hn => ?_, fun hn => by rw [e0]; exact g5 hn⟩
      obtain ⟨a1, a2, a3⟩ := g4 hn
      have hL : LC (opS N b S).1 b0 := by
        unfold LC at a1 ⊢
        rw [e0, opS_low (c := 2 * b0) (by omega) (by omega), opS_low (c := 2 * b0 + 1) (by omega) (by omega)]
        exact a1
      refine ⟨hL, ?_, ?_⟩
      · rw [e0]
        rcases un_up hu e with u | u
        · exact GB_opAt h2 h32 hb hi k _ (2 * b0) (by omega) u (by omega) a2
        · exact GB_cg (fun c hc => opS_out (fun z => un_dj h0 hc (by rw [z]; exact u)) (fun z => un_dj h0 hc (by rw [z]; exact (un_2 u).1)) (fun z => un_dj h0 hc (by rw [z]; exact (un_2 u).2))) a2
      · rw [e0]
        rcases un_up hu e with u | u
        · exact GB_cg (fun c hc => opS_out (fun z => un_dj h0 (by rw [z]; exact u) hc) (fun z => un_dj h0 (by rw [z]; exact (un_2 u).1) hc) (fun z => un_dj h0 (by rw [z]; exact (un_2 u).2) hc)) a3
        · exact GB_opAt h2 h32 hb hi k _ (2 * b0 + 1) (by omega) u (by omega) a3
theorem GB_ff {N K : Nat} {t : Int32} (h2 : 2 ≤ N) (h32 : N ≤ 32) (hK : K < 1000000000) : ∀ (k b : Nat) (S : GS), 1 ≤ b → b < 64 → GB N S.1 6 K 1 → GB N (ff N t k b S).2.1 6 K 1
  | 0, b, S, _, _, h => h
  | k + 1, b, S, h1, hb, h => by
    rw [ff]
    by_cases hi : gIn N b = true
    · rw [if_pos hi]
      have hc := (geo_in h2 h32 hb hi).1
      exact GB_ff h2 h32 hK k _ _ (by split <;> omega) (by split <;> omega) (GB_opAt h2 h32 hb hi 6 K 1 (by omega) (un_1 h1 hb) hK h)
    · rw [if_neg hi]
      exact h
theorem GB_ffS {N K : Nat} {t : Int32} {S : GS} (h2 : 2 ≤ N) (h32 : N ≤ 32) (hK : K < 1000000000) (h : GB N S.1 6 K 1) : GB N (ffS N t S).2.1 6 K 1 := by
  unfold ffS
  split
  · exact h
  · exact GB_ff h2 h32 hK 6 1 S (by omega) (by omega) h
theorem GB_oE {N K : Nat} (h2 : 2 ≤ N) (h32 : N ≤ 32) (hK : K < 1000000000) : ∀ (k : Nat) (S : GS), k ≤ 64 → GB N S.1 6 K 1 → GB N (oE N k S).1 6 K 1
  | 0, S, _, h => h
  | k + 1, S, hk, h => by
    rw [oE]
    split
    · rename_i hi
      simp only [Bool.and_eq_true, decide_eq_true_eq] at hi
      exact GB_opAt h2 h32 (by omega) hi.2 6 K 1 (by omega) (un_1 hi.1 (by omega)) hK (GB_oE h2 h32 hK k S (by omega) h)
    · exact GB_oE h2 h32 hK k S (by omega) h
theorem GB_z {N : Nat} (h2 : 2 ≤ N) (h32 : N ≤ 32) : ∀ (k K b : Nat), k ≤ 6 → 2 ^ (6 - k) ≤ b → b < 64 → GB N zV k K b
  | 0, _, b, _, hp, hb => by
    have : (2 : Nat) ^ (6 - 0) = 64 := rfl
    omega
  | k + 1, K, b, hk, hp, hb => by
    refine ⟨by show na 0 ≤ K; rw [na_z]; omega, by show na 0 ≤ K + 999; rw [na_z]; omega, by show na 0 ≤ 999; rw [na_z]; omega, fun hi => ?_, fun _ => rfl⟩
    have hc := (geo_in h2 h32 hb hi).1
    have hpw : 2 ^ (6 - k) ≤ 2 * b ∧ 2 ^ (6 - k) ≤ 2 * b + 1 := by
      have e : 6 - k = (6 - (k + 1)) + 1 := by omega
      rw [e, Nat.pow_succ]
      omega
    refine ⟨?_, GB_z h2 h32 k _ _ (by omega) hpw.1 (by omega), GB_z h2 h32 k _ _ (by omega) hpw.2 (by omega)⟩
    show (0 : Int32) = if (0 : Int32) = 0 then imin 0 0 + 0 else 0 + 0
    decide
theorem GB_zero {N : Nat} (h2 : 2 ≤ N) (h32 : N ≤ 32) : GB N zV 6 0 1 := GB_z h2 h32 6 0 1 (by omega) (by decide) (by omega)
theorem lwF_le {N f m : Nat} {V : Val} {a : Int32} : ∀ n k, k < n → lwF N V f m a n ≤ hg N V (nI k) 6 1 0 + shA f m k a
  | 0, k, h => absurd h (by omega)
  | n + 1, k, h => by
    rw [lwF]
    obtain ⟨i1, i2, -⟩ := imin_le (a := lwF N V f m a n) (b := hg N V (nI n) 6 1 0 + shA f m n a)
    by_cases e : k = n
    · rw [e]
      exact i2
    · exact i32_le_tr i1 (lwF_le n k (by omega))
theorem lwF_ex {N f m : Nat} {V : Val} {a : Int32} : ∀ n, lwF N V f m a n = 2147483647 ∨ ∃ k, k < n ∧ lwF N V f m a n = hg N V (nI k) 6 1 0 + shA f m k a
  | 0 => Or.inl rfl
  | n + 1 => by
    rw [lwF]
    obtain ⟨-, -, i3⟩ := imin_le (a := lwF N V f m a n) (b := hg N V (nI n) 6 1 0 + shA f m n a)
    rcases i3 with e | e
    · rw [e]
      exact (lwF_ex n).elim Or.inl (fun ⟨k, k1, k2⟩ => Or.inr ⟨k, by omega, k2⟩)
    · exact Or.inr ⟨n, by omega, e⟩
theorem lb_lw {N f m K : Nat} {V : Val} {pu a : Int32} (h2 : 2 ≤ N) (h32 : N ≤ 32) (hm : 1 ≤ m) (hf : f + m ≤ N) (ha : na a ≤ 999) (hK : K < 800000000) (hG : GB N V 6 K 1) : lbS N V pu m a f = lwF N V f m a N := by
  obtain ⟨o1, o2, o3, o4⟩ := geo_one h2 h32
  have hp : (2 : Nat) ^ (6 - 6) ≤ 1 := by decide
  have hh : ∀ k, k < N → hg N (goR N (-13) a (nI f) (nI (f + m - 1)) V pu).1 (nI k) 6 1 0 = hg N V (nI k) 6 1 0 + shA f m k a := by
    intro k hk
    have q := hg_dn (x := a) (f := nI f) (l := nI (f + m - 1)) (t := nI k) h2 h32 6 1 (V, pu, 0, 0, 0, 0) (by omega) (by omega) hp (by omega) o1 (by
      rw [o2]
      exact i32_nl (nI_pos (by omega))) (by
      rw [o3, nI_p h2]
      exact i32_nl (nI_nlt (by omega) (by omega)))
    refine q.trans ?_
    show hg N V (nI k) 6 1 0 + _ = _
    unfold shA
    have e : (nI f ≤ nI k ∧ nI k ≤ nI (f + m - 1)) ↔ (f ≤ k ∧ k < f + m) := by
      rw [Int32.le_iff_toInt_le, Int32.le_iff_toInt_le, nI_ti (by omega), nI_ti (by omega), nI_ti (by omega)]
      omega
    by_cases c : f ≤ k ∧ k < f + m
    · rw [if_pos c, if_pos (e.mpr c)]
    · rw [if_neg c, if_neg (fun z => c (e.mp z))]
  have hG' := GB_go (o := -13) (f := nI f) (t := nI (f + m - 1)) (pu := pu) h2 h32 ha (by omega) hG
  obtain ⟨m1, t, p1, p2, p3⟩ := hg_min h2 h32 6 (K + 999) 1 (by omega) (by omega) o1 (by omega) hG'
  show ((goR N (-13) a (nI f) (nI (f + m - 1)) V pu).1 1).2.2.1 = _
  generalize (goR N (-13) a (nI f) (nI (f + m - 1)) V pu).1 = W at *
  have hlo : ∀ k, k < N → (W 1).2.2.1 ≤ hg N V (nI k) 6 1 0 + shA f m k a := fun k hk => by
    rw [← hh k hk]
    exact m1 _ (by rw [o2]; exact i32_nl (nI_pos (by omega))) (by rw [o3, nI_p h2]; exact i32_nl (nI_nlt (by omega) (by omega)))
  obtain ⟨j, hj, hjt⟩ : ∃ j, j < N ∧ t = nI j := by
    refine tOK_nat h2 h32 ?_
    rw [o2] at p1
    rw [o3] at p2
    rw [← tOK_w h2 h32]
    unfold wOK
    simp only [Bool.and_eq_true, decide_eq_true_eq, Int32.not_lt]
    exact ⟨p1, p2⟩
  rw [hjt, hh j hj] at p3
  have h3 : (W 1).2.2.1 ≤ lwF N V f m a N := by
    rcases lwF_ex (N := N) (f := f) (m := m) (V := V) (a := a) N with e | ⟨k, k1, k2⟩
    · rw [e, Int32.le_iff_toInt_le]
      have := Int32.toInt_lt (W 1).2.2.1
      have e9 : (2147483647 : Int32).toInt = 2147483647 := by decide
      omega
    · rw [k2]
      exact hlo k k1
  have h4 : lwF N V f m a N ≤ (W 1).2.2.1 := by
    rw [← p3]
    exact lwF_le N j hj
  rw [Int32.le_iff_toInt_le] at h3 h4
  exact Int32.toInt_inj.mp (by omega)
theorem bsF_cg {g g' : Nat → Int32} : ∀ k, (∀ j, j ≤ k → g j = g' j) → bsF g k = bsF g' k
  | 0, h => by rw [bsF, bsF, h 0 (by omega)]
  | k + 1, h => by rw [bsF, bsF, bsF_cg k (fun j hj => h j (by omega)), h (k + 1) (by omega)]
theorem na_wOK {a : Int32} (h : wOK a 0 999 = true) : na a ≤ 999 := by
  unfold wOK at h
  simp only [Bool.and_eq_true, decide_eq_true_eq] at h
  obtain ⟨h1, h2⟩ := h
  rw [Int32.lt_iff_toInt_lt] at h1 h2
  have e1 : (999 : Int32).toInt = 999 := by decide
  have e2 : (0 : Int32).toInt = 0 := by decide
  unfold na
  omega
theorem na_wOK9 {a : Int32} (h : wOK a (-999) 999 = true) : na a ≤ 999 := by
  unfold wOK at h
  simp only [Bool.and_eq_true, decide_eq_true_eq] at h
  obtain ⟨h1, h2⟩ := h
  rw [Int32.lt_iff_toInt_lt] at h1 h2
  have e1 : (999 : Int32).toInt = 999 := by decide
  have e2 : (-999 : Int32).toInt = -999 := by decide
  unfold na
  omega
theorem best_eq {N m K : Nat} {V : Val} {pu a : Int32} (h2 : 2 ≤ N) (h32 : N ≤ 32) (hm : 1 ≤ m) (hmN : m ≤ N) (ha : wOK a 0 999 = true) (hK : K < 800000000) (hG : GB N V 6 K 1) : (bsF (lbS N V pu m a) (N - m)).1 = (bsF (fun f => lwF N V f m a N) (N - m)).1 := by
  rw [bsF_cg (g := lbS N V pu m a) (g' := fun f => lwF N V f m a N) (N - m) (fun j hj => lb_lw h2 h32 hm (by omega) (na_wOK ha) hK hG)]
