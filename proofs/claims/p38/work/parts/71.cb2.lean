/-! the same beside what is done -/
theorem gE1_all : (List.range 33).all (fun N => decide (N < 2) || gEx N 1) = true := by decide +kernel
theorem gEx_1 {N : Nat} (h2 : 2 ≤ N) (h32 : N ≤ 32) : gEx N 1 = true := by
  have h := List.all_eq_true.mp gE1_all N (List.mem_range.mpr (by omega))
  rcases Bool.or_eq_true_iff.mp h with h | h
  · exact absurd (of_decide_eq_true h) (by omega)
  · exact h
theorem CB_goS {N : Nat} {o x f t : Int32} {S : GS} {K : Nat} (h2 : 2 ≤ N) (h32 : N ≤ 32) (hx : na x ≤ 999) (hK : K < 900000000) (h : CB N S.1 6 K 1) : CB N (goS N o x f t S).1 6 (K + 999) 1 := CB_dn h2 h32 hx 6 1 (S.1, S.2.1, 0, 0, S.2.2.2.2) K (by omega) (by omega) (gEx_1 h2 h32) hK h
theorem CB_go {N : Nat} {o x f t pu : Int32} {V : Val} {K : Nat} (h2 : 2 ≤ N) (h32 : N ≤ 32) (hx : na x ≤ 999) (hK : K < 900000000) (h : CB N V 6 K 1) : CB N (goR N o x f t V pu).1 6 (K + 999) 1 := CB_goS (S := (V, pu, 0, 0, 0, 0)) h2 h32 hx hK h
theorem CB_ord {N : Nat} {o a f g w : Int32} {S : GS} {K : Nat} (h2 : 2 ≤ N) (h32 : N ≤ 32) (hK : K < 900000000) (h : CB N S.1 6 K 1) : CB N (ordS N o a f g w S).1 6 (K + 999) 1 := by
  unfold ordS
  split
  · exact CB_mono (by omega) h
  · exact CB_goS h2 h32 na_held hK h
theorem CB_lines {N : Nat} {days : Int32} (h2 : 2 ≤ N) (h32 : N ≤ 32) : ∀ (l : List LN) (S : GS) (K : Nat), K + 999 * l.length < 900000000 → CB N S.1 6 K 1 → CB N (l.foldl (lnE N days) S).1 6 (K + 999 * l.length) 1
  | [], S, K, _, h => CB_mono (by omega) h
  | ln :: l, S, K, hK, h => by
    rw [List.length_cons] at hK ⊢
    have := CB_lines (days := days) h2 h32 l (lnE N days S ln) (K + 999) (by omega) (CB_ord h2 h32 (by omega) h)
    rw [List.foldl_cons]
    exact CB_mono (by omega) this
theorem CB_days {N : Nat} {l : List LN} (h2 : 2 ≤ N) (h32 : N ≤ 32) (hl : l.length ≤ 16) : ∀ (k : Nat) (x : GS × Int32) (K : Nat), K + 15984 * k < 900000000 → CB N x.1.1 6 K 1 → CB N (daysS N l k x).1.1 6 (K + 15984 * k) 1
  | 0, x, K, _, h => CB_mono (by omega) h
  | k + 1, x, K, hK, h => by
    have := CB_days h2 h32 hl k (dayS N l x) (K + 15984) (by omega) (CB_mono (by omega) (CB_lines h2 h32 l x.1 K (by omega) h))
    rw [daysS]
    exact CB_mono (by omega) this
theorem CB_dayR {N k K : Nat} {l : List LN} {v : Val × Int32 × Int32} (h2 : 2 ≤ N) (h32 : N ≤ 32) (hl : l.length ≤ 16) (hk : k ≤ 30) (hK : K < 800000000) (h : CB N v.1 6 K 1) : CB N (dayR N l k v).1 6 (K + 479520) 1 := CB_mono (by omega) (CB_days h2 h32 hl k ((v.1, v.2.1, 0, 0, 0, 0), v.2.2) K (by omega) h)
theorem opS_hw {N b c : Nat} {S : GS} (h1 : c ≠ 2 * b) (h2 : c ≠ 2 * b + 1) : ((opS N b S).1 c).2.1 = (S.1 c).2.1 ∧ ((opS N b S).1 c).1 = (S.1 c).1 := by
  by_cases e : c = b
  · rw [e]
    unfold opS
    split
    · show (opV N b S.1 b).2.1 = _ ∧ (opV N b S.1 b).1 = _
      unfold opV
      rw [if_pos rfl]
      exact ⟨rfl, rfl⟩
    · exact ⟨rfl, rfl⟩
  · rw [opS_out e h1 h2]
    exact ⟨rfl, rfl⟩
theorem CB_opAt {N : Nat} {S : GS} {b : Nat} (h2 : 2 ≤ N) (h32 : N ≤ 32) (hb : b < 64) (hi : gIn N b = true) : ∀ (k K b0 : Nat), 1 ≤ b0 → un b0 b → K < 1000000000 → CB N S.1 k K b0 → CB N (opS N b S).1 k K b0
  | 0, _, _, _, _, _, h => h.elim
  | k + 1, K, b0, h0, hu, hK, hG => by
    by_cases e : b = b0
    · rw [e] at hb hi ⊢
      exact CB_opS h2 h32 h0 hb hi hK hG
    · obtain ⟨g1, g2, g3, g4, g5⟩ := hG
      have hge := un_ge hu
      have e0 : (opS N b S).1 b0 = S.1 b0 := opS_out (by omega) (by omega) (by omega)
      refine ⟨by rw [e0]; exact g1, by rw [e0]; exact g2, by rw [e0]; exact g3, fun hn => ?_, fun hn => by rw [e0]; exact g5 hn⟩
      obtain ⟨a1, a2, a3⟩ := g4 hn
      have u1 := opS_hw (N := N) (b := b) (S := S) (c := 2 * b0) (by omega) (by omega)
      have u2 := opS_hw (N := N) (b := b) (S := S) (c := 2 * b0 + 1) (by omega) (by omega)
      have hL : LCh (opS N b S).1 b0 ∧ LCw N (opS N b S).1 b0 := by
        unfold LCh LCw at a1 ⊢
        rw [e0, u1.1, u2.1, u1.2, u2.2]
        exact a1
      refine ⟨hL, ?_, ?_⟩
      · rw [e0]
        rcases un_up hu e with u | u
        · exact CB_opAt h2 h32 hb hi k _ (2 * b0) (by omega) u (by omega) a2
        · exact CB_cg (fun c hc => opS_out (fun z => un_dj h0 hc (by rw [z]; exact u)) (fun z => un_dj h0 hc (by rw [z]; exact (un_2 u).1)) (fun z => un_dj h0 hc (by rw [z]; exact (un_2 u).2))) a2
      · rw [e0]
        rcases un_up hu e with u | u
        · exact CB_cg (fun c hc => opS_out (fun z => un_dj h0 (by rw [z]; exact u) hc) (fun z => un_dj h0 (by rw [z]; exact (un_2 u).1) hc) (fun z => un_dj h0 (by rw [z]; exact (un_2 u).2) hc)) a3
        · exact CB_opAt h2 h32 hb hi k _ (2 * b0 + 1) (by omega) u (by omega) a3
theorem CB_ff {N K : Nat} {t : Int32} (h2 : 2 ≤ N) (h32 : N ≤ 32) (hK : K < 1000000000) : ∀ (k b : Nat) (S : GS), 1 ≤ b → b < 64 → CB N S.1 6 K 1 → CB N (ff N t k b S).2.1 6 K 1
  | 0, b, S, _, _, h => h
  | k + 1, b, S, h1, hb, h => by
    rw [ff]
    by_cases hi : gIn N b = true
    · rw [if_pos hi]
      have hc := (geo_in h2 h32 hb hi).1
      exact CB_ff h2 h32 hK k _ _ (by split <;> omega) (by split <;> omega) (CB_opAt h2 h32 hb hi 6 K 1 (by omega) (un_1 h1 hb) hK h)
    · rw [if_neg hi]
      exact h
theorem CB_ffS {N K : Nat} {t : Int32} {S : GS} (h2 : 2 ≤ N) (h32 : N ≤ 32) (hK : K < 1000000000) (h : CB N S.1 6 K 1) : CB N (ffS N t S).2.1 6 K 1 := by
  unfold ffS
  split
  · exact h
  · exact CB_ff h2 h32 hK 6 1 S (by omega) (by omega) h
theorem CB_oE {N K : Nat} (h2 : 2 ≤ N) (h32 : N ≤ 32) (hK : K < 1000000000) : ∀ (k : Nat) (S : GS), k ≤ 64 → CB N S.1 6 K 1 → CB N (oE N k S).1 6 K 1
  | 0, S, _, h => h
  | k + 1, S, hk, h => by
    rw [oE]
    split
    · rename_i hi
      simp only [Bool.and_eq_true, decide_eq_true_eq] at hi
      exact CB_opAt h2 h32 (by omega) hi.2 6 K 1 (by omega) (un_1 hi.1 (by omega)) hK (CB_oE h2 h32 hK k S (by omega) h)
    · exact CB_oE h2 h32 hK k S (by omega) h
theorem CB_z {N : Nat} (h2 : 2 ≤ N) (h32 : N ≤ 32) : ∀ (k K b : Nat), k ≤ 6 → 2 ^ (6 - k) ≤ b → b < 64 → CB N zV k K b
  | 0, _, b, _, hp, hb => by
    have : (2 : Nat) ^ (6 - 0) = 64 := rfl
    omega
  | k + 1, K, b, hk, hp, hb => by
    refine ⟨by show na 0 ≤ K; rw [na_z]; omega, by show na 0 ≤ K + 999; rw [na_z]; omega, by show na 0 ≤ 999; rw [na_z]; omega, fun hi => ?_, fun _ => by show (0 : Int64) = (0 : Int32).toInt64; decide⟩
    have hc := (geo_in h2 h32 hb hi).1
    have hpw : 2 ^ (6 - k) ≤ 2 * b ∧ 2 ^ (6 - k) ≤ 2 * b + 1 := by
      have e : 6 - k = (6 - (k + 1)) + 1 := by omega
      rw [e, Nat.pow_succ]
      omega
    refine ⟨⟨?_, ?_⟩, CB_z h2 h32 k _ _ (by omega) hpw.1 (by omega), CB_z h2 h32 k _ _ (by omega) hpw.2 (by omega)⟩
    · show (0 : Int32) = (if (0 : Int32) = 0 then imax 0 0 else 0) + 0
      decide
    · have z64 : (0 : Int32).toInt64 = 0 := by decide
      show (0 : Int64) = (if (0 : Int32) = 0 then 0 + 0 else (0 : Int32).toInt64 * cn N b) + (0 : Int32).toInt64 * cn N b
      rw [if_pos rfl, z64, Int64.zero_mul]
      rfl
theorem CB_zero {N : Nat} (h2 : 2 ≤ N) (h32 : N ≤ 32) : CB N zV 6 0 1 := CB_z h2 h32 6 0 1 (by omega) (by decide) (by omega)
