/-! what the valley's bounds come to -/
theorem SOK.go {N K : Nat} {o x f t pu : Int32} {V : Val} (h : SOK N K V) (h2 : 2 ≤ N) (h32 : N ≤ 32) (hx : na x ≤ 999) (hK : K + 999 < 900000000) : SOK N (K + 999) (goR N o x f t V pu).1 :=
  ⟨CB_go h2 h32 hx h.2.2.2 h.1, GB_go h2 h32 hx h.2.2.2 h.2.1, VI_go (S := (V, pu, 0, 0, 0, 0)) h2 h32 h.2.2.1, hK⟩
theorem SOK.oE {N K : Nat} {S : GS} (h : SOK N K S.1) (h2 : 2 ≤ N) (h32 : N ≤ 32) : SOK N K (oE N 64 S).1 := by
  have hK := h.2.2.2
  exact ⟨CB_oE h2 h32 (Nat.lt_trans hK (by decide)) 64 S (Nat.le_refl _) h.1, GB_oE h2 h32 (Nat.lt_trans hK (by decide)) 64 S (Nat.le_refl _) h.2.1, VI_oE h2 h32 64 S h.2.2.1, hK⟩
theorem SOK.up {N K K' : Nat} {V : Val} (h : SOK N K V) (hk : K ≤ K') (hK : K' < 900000000) : SOK N K' V := ⟨CB_mono hk h.1, GB_mono hk h.2.1, h.2.2.1, hK⟩
theorem SOK.zero {N : Nat} (h2 : 2 ≤ N) (h32 : N ≤ 32) : SOK N 0 zV := ⟨CB_zero h2 h32, GB_zero h2 h32, VI_zero, by decide⟩
