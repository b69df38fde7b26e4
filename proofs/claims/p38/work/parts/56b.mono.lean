/-! a reading goes forward -/
theorem pb_inv2 {x : PR} {f : Nat → PR} {R : List Int32} (h : (pb x f).1 = some R) : ∃ L M, x.1 = some L ∧ (f x.2).1 = some M ∧ (pb x f).2 = (f x.2).2 := by
  obtain ⟨L, M, h1, h2, _⟩ := pb_inv h
  exact ⟨L, M, h1, h2, by rw [pb_s h1]⟩
theorem pbb_inv2 {α β : Type} {x : Option α × Nat} {f : α → Nat → Option β × Nat} {b : β} (h : (pbb x f).1 = some b) : ∃ a, x.1 = some a ∧ (f a x.2).1 = some b ∧ (pbb x f).2 = (f a x.2).2 := by
  obtain ⟨a, h1, h2⟩ := pbb_inv h
  exact ⟨a, h1, h2, by rw [pbb_s h1]⟩
def PMn (f : Nat → PR) : Prop := ∀ p R, (f p).1 = some R → p ≤ (f p).2
theorem PMn_tk {T : Nat → Int32} {t : Int32} : PMn (ptk T t) := fun p R h => by
  unfold ptk at h ⊢
  split at h
  · rename_i e
    rw [if_pos e]
    exact Nat.le_succ p
  · cases h
theorem PMn_pb {x : PR} {f : Nat → PR} {R : List Int32} {p : Nat} (h : (pb x f).1 = some R) (hp : ∀ L, x.1 = some L → p ≤ x.2) (hf : PMn f) : p ≤ (pb x f).2 := by
  obtain ⟨L, M, h1, h2, h3⟩ := pb_inv2 h
  rw [h3]
  exact Nat.le_trans (hp L h1) (hf _ _ h2)
theorem PMn_em {t : Int32} : PMn (pem t) := fun p R h => Nat.le_refl _
theorem PMn_ch {T : Nat → Int32} {pt : Nat → PR} {join : Int32 → Bool} (H : PMn pt) : ∀ k, PMn (fun q => pch T pt join k q) := by
  intro k
  induction k with
  | zero => exact fun p R h => Nat.le_refl _
  | succ k ih =>
    intro p R h
    show p ≤ (pch T pt join (k + 1) p).2
    replace h : (pch T pt join (k + 1) p).1 = some R := h
    rw [pch] at h ⊢
    split at h
    · rename_i hj
      rw [if_pos hj]
      exact PMn_pb h (fun L hL => Nat.le_trans (Nat.le_succ p) (H _ _ hL)) (fun q S hS => PMn_pb hS (fun _ _ => Nat.le_refl _) ih)
    · rename_i hj
      rw [if_neg hj]
      exact Nat.le_refl _
theorem PMn_chn {T : Nat → Int32} {pt : Nat → PR} {join : Int32 → Bool} (H : PMn pt) : PMn (pchn T pt join) := fun p R h => PMn_pb h (fun L hL => H _ _ hL) (PMn_ch H 400)
theorem lv_mono {T : Nat → Int32} : ∀ L, PMn (lvP T L).1.1 ∧ PMn (lvP T L).1.2 ∧ PMn (lvP T L).2.1 ∧ PMn (lvP T L).2.2 := by
  intro L
  induction L with
  | zero => exact ⟨fun p R h => (by cases h), fun p R h => (by cases h), fun p R h => (by cases h), fun p R h => (by cases h)⟩
  | succ L ih =>
    obtain ⟨i1, i2, i3, i4⟩ := ih
    have br : ∀ n, PMn (pbr T (lvP T L).1.2 n) := by
      intro n p R h
      unfold pbr at h ⊢
      split at h
      · rename_i h7
        rw [if_pos h7]
        split at h
        · rename_i hn
          rw [if_pos hn]
          exact PMn_pb h (fun A hA => Nat.le_trans (Nat.le_succ p) (i2 _ _ hA)) (fun q S hS => PMn_pb hS (fun _ hX => PMn_tk _ _ hX) (fun q S hS => PMn_pb hS (fun _ hX => i2 _ _ hX) PMn_tk))
        · rename_i hn
          rw [if_neg hn]
          exact PMn_pb h (fun A hA => Nat.le_trans (Nat.le_succ p) (i2 _ _ hA)) PMn_tk
      · cases h
    have val : PMn (pval T (lvP T L).1.1 (lvP T L).1.2) := by
      intro p R h
      unfold pval at h ⊢
      split at h
      · rename_i c
        rw [if_pos c]
        exact Nat.le_succ p
      rename_i c
      rw [if_neg c]
      split at h
      · rename_i c
        rw [if_pos c]
        exact PMn_pb h (fun A hA => Nat.le_trans (Nat.le_succ p) (i1 _ _ hA)) PMn_em
      rename_i c
      rw [if_neg c]
      split at h
      · rename_i c
        rw [if_pos c]
        exact br 1 _ _ h
      rename_i c
      rw [if_neg c]
      split at h
      · rename_i c
        rw [if_pos c]
        exact PMn_pb h (fun A hA => Nat.le_trans (Nat.le_succ p) (br 1 _ _ hA)) PMn_em
      rename_i c
      rw [if_neg c]
      split at h
      · rename_i c
        rw [if_pos c]
        exact PMn_pb h (fun A hA => Nat.le_trans (Nat.le_succ p) (br 2 _ _ hA)) PMn_em
      · cases h
    have sum := PMn_chn (T := T) (join := jn 2) (PMn_chn (T := T) (join := jn 3) val)
    have sng : PMn (psg T (pchn T (pchn T (pval T (lvP T L).1.1 (lvP T L).1.2) (jn 3)) (jn 2)) (lvP T L).2.1 (lvP T L).2.2) := by
      intro p R h
      unfold psg at h ⊢
      split at h
      · rename_i c
        rw [if_pos c]
        exact PMn_pb h (fun A hA => Nat.le_trans (Nat.le_succ p) (i3 _ _ hA)) PMn_em
      rename_i c
      rw [if_neg c]
      split at h
      · rename_i c
        rw [if_pos c]
        exact PMn_pb h (fun A hA => Nat.le_trans (Nat.le_succ p) (i4 _ _ hA)) PMn_tk
      · rename_i c
        rw [if_neg c]
        refine PMn_pb h (fun A hA => sum _ _ hA) (fun q S hS => ?_)
        replace hS : (if isCmp (T q) = true then pb (pchn T (pchn T (pval T (lvP T L).1.1 (lvP T L).1.2) (jn 3)) (jn 2) (q + 1)) (pem (T q)) else (none, q)).1 = some S := hS
        show q ≤ (if isCmp (T q) = true then pb (pchn T (pchn T (pval T (lvP T L).1.1 (lvP T L).1.2) (jn 3)) (jn 2) (q + 1)) (pem (T q)) else (none, q)).2
        split at hS
        · rename_i c
          rw [if_pos c]
          exact PMn_pb hS (fun A hA => Nat.le_trans (Nat.le_succ q) (sum _ _ hA)) PMn_em
        · cases hS
    exact ⟨val, sum, sng, PMn_chn (PMn_chn sng)⟩
theorem tst_mn {T : Nat → Int32} {q : Nat} {W : Option (List Int32)} (hW : (if T q = -6 then ((tstP T (q + 1)).1.map some, (tstP T (q + 1)).2) else (some none, q)).1 = some W) : q ≤ (if T q = -6 then ((tstP T (q + 1)).1.map some, (tstP T (q + 1)).2) else (some none, q)).2 := by
  split at hW
  · rename_i c
    rw [if_pos c]
    replace hW : (tstP T (q + 1)).1.map some = some W := hW
    rw [Option.map_eq_some_iff] at hW
    obtain ⟨w, h1, h2⟩ := hW
    exact Nat.le_trans (Nat.le_succ q) ((lv_mono 9).2.2.2 _ _ h1)
  · rename_i c
    rw [if_neg c]
    exact Nat.le_refl _
theorem pln_mono {T : Nat → Int32} {p : Nat} {ln : LN} (h : (pln T p).1 = some ln) : p < (pln T p).2 := by
  unfold pln at h ⊢
  obtain ⟨A, hA, h, e⟩ := pbb_inv2 h
  have g1 : p < (if T p = -15 then (some [], p + 1) else sumP T (p + 1)).2 := by
    split at hA
    · rename_i c
      rw [if_pos c]
      exact Nat.lt_succ_self p
    · rename_i c
      rw [if_neg c]
      exact (lv_mono 9).2.1 _ _ hA
  rw [e]
  clear e
  obtain ⟨_, h2, h, e⟩ := pbb_inv2 h
  have g2 := PMn_tk _ _ h2
  rw [e]
  clear e
  obtain ⟨F, h3, h, e⟩ := pbb_inv2 h
  have g3 := (lv_mono (T := T) 9).2.1 _ _ h3
  rw [e]
  clear e
  obtain ⟨_, h4, h, e⟩ := pbb_inv2 h
  have g4 := PMn_tk _ _ h4
  rw [e]
  clear e
  obtain ⟨G, h5, h, e⟩ := pbb_inv2 h
  have g5 := (lv_mono (T := T) 9).2.1 _ _ h5
  rw [e]
  clear e
  obtain ⟨W, h6, h, e⟩ := pbb_inv2 h
  have g6 := tst_mn h6
  rw [e]
  clear e
  obtain ⟨_, h7, h, e⟩ := pbb_inv2 h
  have g7 := PMn_tk _ _ h7
  rw [e]
  exact Nat.lt_of_lt_of_le g1 (Nat.le_trans g2 (Nat.le_trans g3 (Nat.le_trans g4 (Nat.le_trans g5 (Nat.le_trans g6 g7)))))
theorem plns_pos {T : Nat → Int32} : ∀ k p l, (plns T k p).1 = some l → p ≤ (plns T k p).2 ∧ ∀ ln ∈ l, ln.1 < (plns T k p).2 := by
  intro k
  induction k with
  | zero =>
    intro p l h
    cases h
    exact ⟨Nat.le_refl _, fun ln hl => by cases hl⟩
  | succ k ih =>
    intro p l h
    rw [plns] at h ⊢
    split at h
    · rename_i ho
      rw [if_pos ho]
      obtain ⟨x, hx, h, e⟩ := pbb_inv2 h
      rw [e]
      obtain ⟨l', hl', h, e2⟩ := pbb_inv2 h
      rw [e2]
      cases h
      have g1 := pln_mono hx
      obtain ⟨g2, g3⟩ := ih _ _ hl'
      refine ⟨Nat.le_trans (Nat.le_of_lt g1) g2, fun ln hl => ?_⟩
      rcases List.mem_cons.mp hl with rfl | h'
      · rw [(pln_fst hx).1]
        exact Nat.lt_of_lt_of_le g1 g2
      · exact g3 ln h'
    · rename_i ho
      rw [if_neg ho]
      cases h
      exact ⟨Nat.le_refl _, fun ln hl => by cases hl⟩
theorem pva_pos {T : Nat → Int32} {n : Option Int32} {l : List LN} (h : (pva T).1 = some (n, l)) : ∀ ln ∈ l, ln.1 < (pva T).2 := by
  unfold pva at h ⊢
  obtain ⟨n', _, h, e⟩ := pbb_inv2 h
  rw [e]
  obtain ⟨l', hl, h, e2⟩ := pbb_inv2 h
  rw [e2]
  split at h
  · rename_i c
    rw [if_pos c]
    cases h
    exact (plns_pos _ _ _ hl).2
  · cases h
