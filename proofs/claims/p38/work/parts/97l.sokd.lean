/-! bounds behind days -/
theorem SOK.lines {N : Nat} {days : Int32} (h2 : 2 ≤ N) (h32 : N ≤ 32) : ∀ (l : List LN) (S : GS) (K : Nat), SOK N K S.1 → K + 999 * l.length < 900000000 → SOK N (K + 999 * l.length) (l.foldl (lnE N days) S).1
  | [], S, K, h, hK => h.up (Nat.le_add_right _ _) hK
  | ln :: l, S, K, h, hK => by
    have e : 999 * (ln :: l).length = 999 + 999 * l.length := by rw [List.length_cons]; omega
    rw [e] at hK ⊢
    rw [← Nat.add_assoc] at hK ⊢
    exact SOK.lines h2 h32 l (lnE N days S ln) (K + 999) (h.ln h2 h32 (Nat.lt_of_le_of_lt (Nat.le_add_right _ _) hK)) hK
theorem SOK.days {N : Nat} {l : List LN} (h2 : 2 ≤ N) (h32 : N ≤ 32) (hl : l.length ≤ 4) : ∀ (k : Nat) (x : GS × Int32) (K : Nat), SOK N K x.1.1 → K + 4000 * k < 900000000 → SOK N (K + 4000 * k) (daysS N l k x).1.1
  | 0, x, K, h, hK => h.up (Nat.le_add_right _ _) hK
  | k + 1, x, K, h, hK => by
    have e : 4000 * (k + 1) = 4000 + 4000 * k := by omega
    rw [e, ← Nat.add_assoc] at hK ⊢
    have h4 : K + 999 * l.length ≤ K + 4000 := Nat.add_le_add_left (by omega) K
    have hK4 : K + 4000 < 900000000 := Nat.lt_of_le_of_lt (Nat.le_add_right _ _) hK
    have := SOK.lines (days := x.2) h2 h32 l x.1 K h (Nat.lt_of_le_of_lt h4 hK4)
    rw [daysS]
    exact SOK.days h2 h32 hl k (dayS N l x) (K + 4000) (this.up h4 hK4) hK
theorem SOK.dayR {N k K : Nat} {l : List LN} {v : Val × Int32 × Int32} (h : SOK N K v.1) (h2 : 2 ≤ N) (h32 : N ≤ 32) (hl : l.length ≤ 4) (hK : K + 4000 * k < 900000000) : SOK N (K + 4000 * k) (dayR N l k v).1 := SOK.days h2 h32 hl k ((v.1, v.2.1, 0, 0, 0, 0), v.2.2) K h hK
