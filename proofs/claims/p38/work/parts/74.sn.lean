/-! what a look sees; looking once more -/
theorem rcV_15 {N b : Nat} {x : Int32} {V : Val} : rcV N (-15) x b V = V := by
  funext c
  unfold rcV
  by_cases h : c = b
  · rw [if_pos h, if_neg (by decide), if_neg (by decide), h]
  · rw [if_neg h]
theorem pw_2 {k b : Nat} (hk : k + 1 ≤ 6) (hp : 2 ^ (6 - (k + 1)) ≤ b) : 2 ^ (6 - k) ≤ 2 * b ∧ 2 ^ (6 - k) ≤ 2 * b + 1 := by
  have e : 6 - k = (6 - (k + 1)) + 1 := by omega
  rw [e, Nat.pow_succ]
  omega
/-- seen so far: from f on, below e -/
def Sn (g : Nat → Int32) (f e : Nat) (s : Nat × Int64 × Int32 × Int32) : Prop := f ≤ e ∧ (s.1 = 0 ↔ e = f) ∧ s.2.1 = sR (fun t => (g t).toInt64) f (e - f) ∧ (f < e → Mx g f e s.2.2.1 ∧ Mn g f e s.2.2.2)
theorem tch_iff {N f l b : Nat} (h2 : 2 ≤ N) (h32 : N ≤ 32) (hf : f < N) (hl : l < N) (hb : b < 64) (he : gEx N b = true) : tch N (nI f) (nI l) b = true ↔ (fb N b ≤ l ∧ f ≤ lb N b) := by
  obtain ⟨e1, e2, e3, e4, e5⟩ := fl_ex h2 h32 hb he
  unfold tch
  rw [e1, e2, decide_eq_true_eq, nI_leq (by omega) (by omega), nI_leq (by omega) (by omega)]
theorem in_iff {N f l b : Nat} (h2 : 2 ≤ N) (h32 : N ≤ 32) (hf : f < N) (hl : l < N) (hb : b < 64) (he : gEx N b = true) : (nI f ≤ gF N b ∧ gL N b ≤ nI l) ↔ (f ≤ fb N b ∧ lb N b ≤ l) := by
  obtain ⟨e1, e2, e3, e4, e5⟩ := fl_ex h2 h32 hb he
  rw [e1, e2, nI_leq (by omega) (by omega), nI_leq (by omega) (by omega)]
theorem Sn_rc {N : Nat} {x : Int32} {S : GS} {g : Nat → Int32} {f b : Nat} (s : f ≤ fb N b) (hle : fb N b ≤ lb N b) (h : Sn g f (fb N b) S.2.2) (hw : (S.1 b).1 = sR (fun t => (g t).toInt64) (fb N b) (lb N b + 1 - fb N b)) (hx : Mx g (fb N b) (lb N b + 1) (S.1 b).2.1) (hn : Mn g (fb N b) (lb N b + 1) (S.1 b).2.2.1) : Sn g f (lb N b + 1) (rcS N (-15) x b S).2.2 := by
  obtain ⟨h1, h2, h3, h4⟩ := h
  unfold rcS
  rw [rcV_15]
  refine ⟨by omega, ⟨fun z => absurd z (Nat.succ_ne_zero _), fun z => by omega⟩, ?_, fun _ => ?_⟩
  · show S.2.2.2.1 + (S.1 b).1 = _
    rw [h3, hw, show lb N b + 1 - f = (fb N b - f) + (lb N b + 1 - fb N b) by omega, sR_sp, show f + (fb N b - f) = fb N b by omega]
  · show Mx g f (lb N b + 1) (if S.2.2.1 = 0 then (S.1 b).2.1 else imax S.2.2.2.2.1 (S.1 b).2.1) ∧ Mn g f (lb N b + 1) (if S.2.2.1 = 0 then (S.1 b).2.2.1 else imin S.2.2.2.2.2 (S.1 b).2.2.1)
    by_cases h0 : S.2.2.1 = 0
    · rw [if_pos h0, if_pos h0]
      have := h2.mp h0
      rw [this] at hx hn
      exact ⟨hx, hn⟩
    · rw [if_neg h0, if_neg h0]
      have hlt : f < fb N b := by
        have : ¬ fb N b = f := fun z => h0 (h2.mpr z)
        omega
      obtain ⟨p, q⟩ := h4 hlt
      exact ⟨Mx.app p hx (by omega) (by omega), Mn.app q hn (by omega) (by omega)⟩
/-- what a going down to look sees -/
theorem dn_sn {N : Nat} {x : Int32} {g : Nat → Int32} {f l : Nat} (h2 : 2 ≤ N) (h32 : N ≤ 32) (hf : f < N) (hl : l < N) (hle : f ≤ l) : ∀ (k b : Nat) (S : GS) (K : Nat), 1 ≤ b → b < 64 → 2 ^ (6 - k) ≤ b → k ≤ 6 → gEx N b = true → K < 900000000 → CB N S.1 k K b → GB N S.1 k K b → (∀ t, fb N b ≤ t → t ≤ lb N b → hg N S.1 (nI t) k b 0 = g t) → fb N b ≤ l → f ≤ lb N b → Sn g f (max f (fb N b)) S.2.2 → Sn g f (min l (lb N b) + 1) (dn N (-15) x (nI f) (nI l) k b S).2.2
  | 0, b, S, K, _, hb, hp, _, _, _, _, _, _, _, _, _ => by
    exfalso
    have : (2 : Nat) ^ (6 - 0) = 64 := rfl
    omega
  | k + 1, b, S, K, hb1, hb, hp, hk6, he, hK, hC, hG, hg', hfl, hfl', hS => by
    obtain ⟨e1, e2, e3, e4, e5⟩ := fl_ex h2 h32 hb he
    by_cases h : f ≤ fb N b ∧ lb N b ≤ l
    · rw [dn_re ((in_iff h2 h32 hf hl hb he).mpr h)]
      rw [show max f (fb N b) = fb N b by omega] at hS
      rw [show min l (lb N b) = lb N b by omega]
      have w := hg_sum h2 h32 (k + 1) K b hb he hK hC
      have m := hg_max h2 h32 (k + 1) K b hb he hK hC
      have n := hg_mnN h2 h32 hb1 hb he hK hG
      rw [sR_cg (g' := fun t => (g t).toInt64) _ (fun t a c => by show (hg N S.1 (nI t) (k + 1) b 0).toInt64 = _; rw [hg' t a (by omega)])] at w
      exact Sn_rc h.1 e3 hS w (m.cg (fun t a c => (hg' t a (by omega)).symm)) (n.cg (fun t a c => (hg' t a (by omega)).symm))
    · cases hi : gIn N b with
      | false =>
        have hlf := fl_lf h2 h32 hb he hi
        exfalso
        omega
      | true =>
        rw [dn_in (fun z => h ((in_iff h2 h32 hf hl hb he).mp z)) hi]
        have hc := (geo_in h2 h32 hb hi).1
        obtain ⟨x1, x2⟩ := un_ex h2 h32 hb hi
        obtain ⟨f1, f2, f3, f4, f5⟩ := fl_in h2 h32 hb hi
        obtain ⟨-, -, a3, a4, -⟩ := fl_ex h2 h32 (b := 2 * b) (by omega) x1
        obtain ⟨-, -, c3, c4, -⟩ := fl_ex h2 h32 (b := 2 * b + 1) (by omega) x2
        have hpw := pw_2 hk6 hp
        have z := opS_z (N := N) (b := b) (S := S)
        obtain ⟨-, -, -, r4, -⟩ := CB_opS h2 h32 hb1 hb hi (by omega) hC
        obtain ⟨-, -, -, s4, -⟩ := GB_opS h2 h32 hb1 hb hi (by omega) hG
        obtain ⟨-, r2, r3⟩ := r4 hi
        obtain ⟨-, s2, s3⟩ := s4 hi
        rw [z.1, na_z, Nat.sub_zero] at r2 r3 s2 s3
        have hO : ∀ t, fb N b ≤ t → t ≤ lb N b → hg N (opS N b S).1 (nI t) k (if t ≤ lb N (2 * b) then 2 * b else 2 * b + 1) 0 = g t := by
          intro t p q
          rw [← hg' t p q, ← hg_op (S := S) h2 h32 hb1 hb hi]
          unfold chd
          rw [(fl_ex h2 h32 (b := 2 * b) (by omega) x1).2.1]
          by_cases ht : t ≤ lb N (2 * b)
          · rw [if_pos ht, if_pos ((nI_leq (by omega) (by omega)).mpr ht)]
          · rw [if_neg ht, if_neg (fun w => ht ((nI_leq (by omega) (by omega)).mp w))]
        have hS0 : Sn g f (max f (fb N b)) (opS N b S).2.2 := by rw [opS_r]; exact hS
        show Sn g f (min l (lb N b) + 1) (dn3 N (-15) x (nI f) (nI l) k b S).2.2
        have hS1 : Sn g f (if f ≤ lb N (2 * b) then min l (lb N (2 * b)) + 1 else max f (fb N b)) (dn2 N (-15) x (nI f) (nI l) k b S).2.2 := by
          unfold dn2
          by_cases ht : f ≤ lb N (2 * b)
          · rw [if_pos ht, if_pos ((tch_iff h2 h32 hf hl (by omega) x1).mpr ⟨by omega, ht⟩)]
            refine dn_sn h2 h32 hf hl hle k (2 * b) _ K (by omega) (by omega) hpw.1 (by omega) x1 hK r2 s2 (fun t p q => ?_) (by omega) ht (by rw [f2]; exact hS0)
            have := hO t (by omega) (by omega)
            rw [if_pos q] at this
            exact this
          · rw [if_neg ht, if_neg (fun w => ht ((tch_iff h2 h32 hf hl (by omega) x1).mp w).2)]
            exact hS0
        unfold dn3
        by_cases ht : fb N (2 * b + 1) ≤ l
        · rw [if_pos ((tch_iff h2 h32 hf hl hc x2).mpr ⟨ht, by omega⟩)]
          have hcC : CB N (dn2 N (-15) x (nI f) (nI l) k b S).1 k K (2 * b + 1) := CB_cg (fun c hc => dn2_n (fun z => un_dj hb1 z hc)) r3
          have hcG : GB N (dn2 N (-15) x (nI f) (nI l) k b S).1 k K (2 * b + 1) := GB_cg (fun c hc => dn2_n (fun z => un_dj hb1 z hc)) s3
          rw [← f4]
          refine dn_sn h2 h32 hf hl hle k (2 * b + 1) _ K (by omega) (by omega) hpw.2 (by omega) x2 hK hcC hcG (fun t p q => ?_) ht (by omega) ?_
          · rw [hg_cg k (2 * b + 1) 0 (V := (opS N b S).1) (fun c hc => dn2_n (fun z => un_dj hb1 z hc))]
            have := hO t (by omega) (by omega)
            rw [if_neg (by omega)] at this
            exact this
          · by_cases hq : f ≤ lb N (2 * b)
            · rw [if_pos hq] at hS1
              rw [show max f (fb N (2 * b + 1)) = min l (lb N (2 * b)) + 1 by omega]
              exact hS1
            · rw [if_neg hq] at hS1
              rw [show max f (fb N (2 * b + 1)) = max f (fb N b) by omega]
              exact hS1
        · rw [if_neg (fun w => ht ((tch_iff h2 h32 hf hl hc x2).mp w).1)]
          have hq : f ≤ lb N (2 * b) := by
            omega
          rw [if_pos hq] at hS1
          rw [show min l (lb N b) = min l (lb N (2 * b)) by omega]
          exact hS1
theorem go_sn {N K : Nat} {x : Int32} {V : Val} {pu : Int32} {f l : Nat} (h2 : 2 ≤ N) (h32 : N ≤ 32) (hfl : f ≤ l) (hl : l < N) (hK : K < 900000000) (hC : CB N V 6 K 1) (hG : GB N V 6 K 1) : (goR N (-15) x (nI f) (nI l) V pu).2.2.2.1 = sR (fun t => (ht N V t).toInt64) f (l + 1 - f) ∧ Mx (ht N V) f (l + 1) (goR N (-15) x (nI f) (nI l) V pu).2.2.2.2.1 ∧ Mn (ht N V) f (l + 1) (goR N (-15) x (nI f) (nI l) V pu).2.2.2.2.2 := by
  obtain ⟨u1, u2⟩ := fl_1 h2 h32
  have := dn_sn (x := x) (g := ht N V) (f := f) (l := l) h2 h32 (by omega) hl hfl 6 1 (V, pu, 0, 0, 0, 0) K (by omega) (by omega) (by omega) (by omega) (gEx_1 h2 h32) hK hC hG (fun t _ _ => rfl) (by omega) (by omega) ⟨by omega, ⟨fun _ => by omega, fun _ => rfl⟩, by rw [u1, show max f 0 - f = 0 by omega]; rfl, fun h => by omega⟩
  rw [u2, show min l (N - 1) = l by omega] at this
  obtain ⟨-, -, a, b⟩ := this
  exact ⟨a, b (by omega)⟩
/-- everything on the way is open -/
def Opn (N : Nat) (f l : Int32) (V : Val) : Nat → Nat → Prop
  | 0, _ => True
  | k + 1, b => (f ≤ gF N b ∧ gL N b ≤ l) ∨ gIn N b = false ∨ (wtb (V b) = false ∧ tel (V b) (V (2 * b)) (V (2 * b + 1)) = V b ∧ (tch N f l (2 * b) = true → Opn N f l V k (2 * b)) ∧ (tch N f l (2 * b + 1) = true → Opn N f l V k (2 * b + 1)))
theorem Opn_cg {N : Nat} {f l : Int32} {V V' : Val} : ∀ (k b : Nat), (∀ c, un b c → V' c = V c) → Opn N f l V k b → Opn N f l V' k b
  | 0, _, _, _ => trivial
  | k + 1, b, e, h => by
    rcases h with h | h | ⟨h1, h2, h3, h4⟩
    · exact Or.inl h
    · exact Or.inr (Or.inl h)
    · refine Or.inr (Or.inr ⟨?_, ?_, fun z => ?_, fun z => ?_⟩)
      · rw [e b (un_rf b)]
        exact h1
      · rw [e b (un_rf b), e (2 * b) (un_l (un_rf _)), e (2 * b + 1) (un_r (un_rf _))]
        exact h2
      · exact Opn_cg k _ (fun c hc => e c (un_l hc)) (h3 z)
      · exact Opn_cg k _ (fun c hc => e c (un_r hc)) (h4 z)
theorem Opn_dn {N : Nat} {o x f l : Int32} (h2 : 2 ≤ N) (h32 : N ≤ 32) : ∀ (k b : Nat) (S : GS), 1 ≤ b → b < 64 → Opn N f l (dn N o x f l k b S).1 k b
  | 0, _, _, _, _ => trivial
  | k + 1, b, S, hb1, hb => by
    by_cases h : f ≤ gF N b ∧ gL N b ≤ l
    · exact Or.inl h
    · cases hi : gIn N b with
      | false => exact Or.inr (Or.inl hi)
      | true =>
        rw [dn_in h hi]
        have hc := (geo_in h2 h32 hb hi).1
        have z := opS_z (N := N) (b := b) (S := S)
        have eb : (dn3 N o x f l k b S).1 b = (opS N b S).1 b := (dn3_n (un_nb hb1).2).trans (dn2_n (un_nb hb1).1)
        show Opn N f l (teV b (dn3 N o x f l k b S).1) (k + 1) b
        have q2 : tch N f l (2 * b) = true → Opn N f l (dn3 N o x f l k b S).1 k (2 * b) := fun ht => by
          refine Opn_cg k (2 * b) (V := (dn2 N o x f l k b S).1) (fun c hc => dn3_n (fun z => un_dj hb1 hc z)) ?_
          unfold dn2
          rw [if_pos ht]
          exact Opn_dn h2 h32 k (2 * b) _ (by omega) (by omega)
        have q3 : tch N f l (2 * b + 1) = true → Opn N f l (dn3 N o x f l k b S).1 k (2 * b + 1) := fun ht => by
          unfold dn3
          rw [if_pos ht]
          exact Opn_dn h2 h32 k (2 * b + 1) _ (by omega) (by omega)
        generalize (dn3 N o x f l k b S).1 = W at *
        have e0 : teV b W b = tel (W b) (W (2 * b)) (W (2 * b + 1)) := if_pos rfl
        have e1 : ∀ c, c ≠ b → teV b W c = W c := fun c hc => if_neg hc
        refine Or.inr (Or.inr ⟨?_, ?_, fun ht => ?_, fun ht => ?_⟩)
        · rw [e0, eb]
          show (decide (¬ ((opS N b S).1 b).2.2.2.2.1 = 0) || decide (¬ ((opS N b S).1 b).2.2.2.1 = 0)) = false
          rw [z.1, z.2]
          rfl
        · rw [e0, e1 (2 * b) (by omega), e1 (2 * b + 1) (by omega)]
          rfl
        · exact Opn_cg k _ (fun c hc => e1 c (by have := un_ge hc; omega)) (q2 ht)
        · exact Opn_cg k _ (fun c hc => e1 c (by have := un_ge hc; omega)) (q3 ht)
theorem teV_id {b : Nat} {V : Val} (h : tel (V b) (V (2 * b)) (V (2 * b + 1)) = V b) : teV b V = V := by
  funext a
  unfold teV
  by_cases e : a = b
  · rw [if_pos e, e]
    exact h
  · rw [if_neg e]
theorem dn_id {N : Nat} {x f l : Int32} : ∀ (k b : Nat) (S : GS), Opn N f l S.1 k b → (dn N (-15) x f l k b S).1 = S.1 ∧ (dn N (-15) x f l k b S).2.1 = S.2.1
  | 0, _, _, _ => ⟨rfl, rfl⟩
  | k + 1, b, S, h => by
    by_cases h0 : f ≤ gF N b ∧ gL N b ≤ l
    · rw [dn_re h0]
      exact ⟨rcV_15, rfl⟩
    · cases hi : gIn N b with
      | false => rw [dn_lf h0 hi]; exact ⟨rfl, rfl⟩
      | true =>
        rcases h with h | h | ⟨h1, h2, h3, h4⟩
        · exact absurd h h0
        · rw [hi] at h
          cases h
        · rw [dn_in h0 hi]
          have eo : opS N b S = S := by
            unfold opS
            rw [if_neg (by rw [h1]; exact Bool.false_ne_true)]
          have q2 : (dn2 N (-15) x f l k b S).1 = S.1 ∧ (dn2 N (-15) x f l k b S).2.1 = S.2.1 := by
            unfold dn2
            rw [eo]
            by_cases ht : tch N f l (2 * b) = true
            · rw [if_pos ht]
              exact dn_id k _ S (h3 ht)
            · rw [if_neg ht]
              exact ⟨rfl, rfl⟩
          have q3 : (dn3 N (-15) x f l k b S).1 = S.1 ∧ (dn3 N (-15) x f l k b S).2.1 = S.2.1 := by
            unfold dn3
            by_cases ht : tch N f l (2 * b + 1) = true
            · rw [if_pos ht]
              have := dn_id (x := x) k (2 * b + 1) (dn2 N (-15) x f l k b S) (by rw [q2.1]; exact h4 ht)
              exact ⟨this.1.trans q2.1, this.2.trans q2.2⟩
            · rw [if_neg ht]
              exact q2
          refine ⟨?_, q3.2⟩
          show teV b (dn3 N (-15) x f l k b S).1 = _
          rw [q3.1]
          exact teV_id h2
theorem go_id {N : Nat} {o x y f l : Int32} {V : Val} {pu pv : Int32} (h2 : 2 ≤ N) (h32 : N ≤ 32) : (goR N (-15) y f l (goR N o x f l V pu).1 pv).1 = (goR N o x f l V pu).1 ∧ (goR N (-15) y f l (goR N o x f l V pu).1 pv).2.1 = pv :=
  dn_id 6 1 ((goR N o x f l V pu).1, pv, 0, 0, 0, 0) (Opn_dn h2 h32 6 1 (V, pu, 0, 0, 0, 0) (by omega) (by omega))
