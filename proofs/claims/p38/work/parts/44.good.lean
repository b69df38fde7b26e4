/-! what the grammar reads leaves one value -/
theorem pb_inv {x : PR} {f : Nat → PR} {R : List Int32} (h : (pb x f).1 = some R) : ∃ L M, x.1 = some L ∧ (f x.2).1 = some M ∧ R = L ++ M := by
  rcases hx : x.1 with _ | L
  · rw [pb_n hx] at h; cases h
  · rw [pb_s hx] at h
    replace h : (f x.2).1.map (fun M => L ++ M) = some R := h
    rw [Option.map_eq_some_iff] at h
    obtain ⟨M, h1, h2⟩ := h
    exact ⟨L, M, rfl, h1, h2.symm⟩
theorem ptk_inv {T : Nat → Int32} {t : Int32} {q : Nat} {M : List Int32} (h : (ptk T t q).1 = some M) : M = [] := by
  unfold ptk at h
  split at h
  · cases h; rfl
  · cases h
theorem pem_inv {t : Int32} {q : Nat} {M : List Int32} (h : (pem t q).1 = some M) : M = [t] := by
  cases h; rfl
def PG (h : Nat) (ty : Bool) (f : Nat → PR) : Prop := ∀ p R, (f p).1 = some R → Gd h ty R
theorem Gd.mono {h h' : Nat} {ty : Bool} {L : List Int32} (H : Gd h ty L) (hh : h ≤ h') : Gd h' ty L := fun r => by
  obtain ⟨v, h1, h2⟩ := H r
  exact ⟨v, h1, fun st hs => h2 st (by omega)⟩
theorem Gd.weak {h : Nat} {L : List Int32} (H : Gd h true L) : Gd h false L := fun r => by
  obtain ⟨v, h1, h2⟩ := H r
  exact ⟨v, fun e => (by cases e), h2⟩
theorem Gd.one {h : Nat} {L : List Int32} {ty ty' : Bool} {t : Int32} (H : Gd h ty L) (f : RC → Int32 → Int32) (hf : ∀ r x st, (ty = true → x = 0 ∨ x = 1) → stp r t (x :: st) = some (f r x :: st) ∧ (ty' = true → f r x = 0 ∨ f r x = 1)) : Gd h ty' (L ++ [t]) := fun r => by
  obtain ⟨v, h1, h2⟩ := H r
  refine ⟨f r v, (hf r v [] h1).2, fun st hs => ?_⟩
  rw [runL_app, h2 st hs]
  show (stp r t (v :: st)).bind (runL r []) = _
  rw [(hf r v st h1).1]
  rfl
theorem Gd.two {h h' : Nat} {L M : List Int32} {ty ty' ty2 : Bool} {t : Int32} (H : Gd h ty L) (H' : Gd h' ty' M) (hh : h' + 1 ≤ h) (f : Int32 → Int32 → Int32) (hf : ∀ r x y st, (ty = true → x = 0 ∨ x = 1) → (ty' = true → y = 0 ∨ y = 1) → stp r t (y :: x :: st) = some (f x y :: st) ∧ (ty2 = true → f x y = 0 ∨ f x y = 1)) : Gd h ty2 (L ++ (M ++ [t])) := fun r => by
  obtain ⟨v, h1, h2⟩ := H r
  obtain ⟨u, g1, g2⟩ := H' r
  refine ⟨f v u, (hf r v u [] h1 g1).2, fun st hs => ?_⟩
  rw [runL_app, h2 st hs]
  show runL r (M ++ [t]) (v :: st) = _
  rw [runL_app, g2 (v :: st) (by rw [List.length_cons]; omega)]
  show (stp r t (u :: v :: st)).bind (runL r []) = _
  rw [(hf r v u st h1 g1).1]
  rfl
theorem Gd.num {t : Int32} (h : (decide (¬ t < 0) || isRd t) = true) : Gd 1 false [t] := fun r => by
  have ho : ¬ isOr t = true := fun e => by
    unfold isOr at e
    simp only [Bool.or_eq_true, decide_eq_true_eq] at e
    rcases e with e | e | e <;> (rw [e] at h; revert h; decide)
  by_cases hn : t < 0
  · have hr : isRd t = true := by simpa [hn] using h
    refine ⟨rdV r t, fun e => (by cases e), fun st hs => ?_⟩
    unfold runL stp
    rw [if_neg ho, if_neg (fun h => h hn), if_pos hr, if_pos (by omega)]
    rfl
  · refine ⟨t, fun e => (by cases e), fun st hs => ?_⟩
    unfold runL stp
    rw [if_neg ho, if_pos hn, if_pos (by omega)]
    rfl
theorem stp_bin {r : RC} {t x y : Int32} {st : List Int32} (h0 : t < 0) (h1 : isOr t = false) (h2 : isRd t = false) (h3 : ¬ t = -22) (h4 : ¬ t = -23) (h5 : ¬ t = -24) (h6 : (t = -25 ∨ t = -26) → (x = 0 ∨ x = 1) ∧ (y = 0 ∨ y = 1)) (h7 : ¬ (t < -37 ∨ (-25 : Int32) < t)) : stp r t (y :: x :: st) = some (rck t x y :: st) := by
  unfold stp
  rw [if_neg (by rw [h1]; decide), if_neg (fun h => h h0), if_neg (by rw [h2]; decide), if_neg h3, if_neg h4, if_neg h5]
  show (if ((t = -25 ∨ t = -26) ∧ ¬ ((x = 0 ∨ x = 1) ∧ (y = 0 ∨ y = 1))) ∨ (t < -37 ∨ (-25 : Int32) < t) then none else some (rck t x y :: st)) = _
  rw [if_neg (fun h => h.elim (fun h => h.2 (h6 h.1)) h7)]
theorem Gd.bin {h h' : Nat} {L M : List Int32} {t : Int32} (H : Gd h false L) (H' : Gd h' false M) (hh : h' + 1 ≤ h) (h0 : t < 0) (h1 : isOr t = false) (h2 : isRd t = false) (h3 : ¬ t = -22) (h4 : ¬ t = -23) (h5 : ¬ t = -24) (h6 : ¬ (t = -25 ∨ t = -26)) (h7 : ¬ (t < -37 ∨ (-25 : Int32) < t)) : Gd h false (L ++ (M ++ [t])) :=
  H.two H' hh (rck t) (fun r x y st _ _ => ⟨stp_bin h0 h1 h2 h3 h4 h5 (fun h => absurd h h6) h7, fun e => (by cases e)⟩)
theorem Gd.cmp {h h' : Nat} {L M : List Int32} {t : Int32} (H : Gd h false L) (H' : Gd h' false M) (hh : h' + 1 ≤ h) (hc : isCmp t = true) : Gd h true (L ++ (M ++ [t])) := by
  have hne : ∀ y : Int32, isCmp y = false → ¬ t = y := fun y hy e => by rw [e, hy] at hc; cases hc
  have h0 : t < 0 := by
    unfold isCmp at hc
    simp only [Bool.and_eq_true, decide_eq_true_eq] at hc
    have a := hc.1
    rw [Int32.lt_iff_toInt_lt] at a ⊢
    have e1 : (-33 : Int32).toInt = -33 := by decide
    have e2 : (0 : Int32).toInt = 0 := by decide
    omega
  have h1 : isOr t = false := by
    unfold isOr
    rw [decide_eq_false (hne _ (by decide)), decide_eq_false (hne _ (by decide)), decide_eq_false (hne _ (by decide))]
    rfl
  have h2 : isRd t = false := by
    unfold isCmp at hc
    simp only [Bool.and_eq_true, decide_eq_true_eq] at hc
    unfold isRd
    have : t < -21 := by
      have a := hc.1
      rw [Int32.lt_iff_toInt_lt] at a ⊢
      have e1 : (-33 : Int32).toInt = -33 := by decide
      have e2 : (-21 : Int32).toInt = -21 := by decide
      omega
    rw [Bool.and_eq_false_iff]
    right
    exact decide_eq_false (fun h => h this)
  have h7 : ¬ (t < -37 ∨ (-25 : Int32) < t) := by
    unfold isCmp at hc
    simp only [Bool.and_eq_true, decide_eq_true_eq] at hc
    have a := hc.1
    refine fun h => h.elim hc.2 (fun b => ?_)
    rw [Int32.lt_iff_toInt_lt] at a b
    have e1 : (-33 : Int32).toInt = -33 := by decide
    have e2 : (-25 : Int32).toInt = -25 := by decide
    omega
  refine H.two H' hh (rck t) (fun r x y st _ _ => ⟨stp_bin h0 h1 h2 (hne _ (by decide)) (hne _ (by decide)) (hne _ (by decide)) (fun h => absurd h (fun e => e.elim (hne _ (by decide)) (hne _ (by decide)))) h7, fun _ => ?_⟩)
  unfold rck
  rw [if_neg (hne _ (by decide)), if_neg (hne _ (by decide)), if_neg (hne _ (by decide)), if_neg (hne _ (by decide)), if_neg (hne _ (by decide)), if_neg (hne _ (by decide))]
  cases tru t x y <;> simp [b2i]
theorem Gd.log {h h' : Nat} {L M : List Int32} {t : Int32} (H : Gd h true L) (H' : Gd h' true M) (hh : h' + 1 ≤ h) (hc : t = -25 ∨ t = -26) : Gd h true (L ++ (M ++ [t])) := by
  rcases hc with rfl | rfl
  · refine H.two H' hh (rck (-25)) (fun r x y st hx hy => ⟨stp_bin (by decide) (by decide) (by decide) (by decide) (by decide) (by decide) (fun _ => ⟨hx rfl, hy rfl⟩) (by decide), fun _ => ?_⟩)
    show b2i (tru (-25) x y) = 0 ∨ b2i (tru (-25) x y) = 1
    cases tru (-25) x y <;> simp [b2i]
  · refine H.two H' hh (rck (-26)) (fun r x y st hx hy => ⟨stp_bin (by decide) (by decide) (by decide) (by decide) (by decide) (by decide) (fun _ => ⟨hx rfl, hy rfl⟩) (by decide), fun _ => ?_⟩)
    show b2i (tru (-26) x y) = 0 ∨ b2i (tru (-26) x y) = 1
    cases tru (-26) x y <;> simp [b2i]
theorem PG.chn {T : Nat → Int32} {pt : Nat → PR} {join : Int32 → Bool} {h h' : Nat} {ty : Bool} (H : PG h' ty pt) (hh : h' + 1 ≤ h) (hj : ∀ t L M, join t = true → Gd h ty L → Gd h' ty M → Gd h ty (L ++ (M ++ [t]))) : PG h ty (pchn T pt join) := by
  have key : ∀ k p L R, Gd h ty L → (pch T pt join k p).1 = some R → Gd h ty (L ++ R) := by
    intro k
    induction k with
    | zero =>
      intro p L R hL hR
      cases hR
      rw [List.append_nil]
      exact hL
    | succ k ih =>
      intro p L R hL hR
      rw [pch] at hR
      split at hR
      · rename_i hjt
        obtain ⟨M, R1, h1, h2, rfl⟩ := pb_inv hR
        obtain ⟨M2, R2, h3, h4, rfl⟩ := pb_inv h2
        cases pem_inv h3
        have := ih _ _ _ (hj _ _ _ hjt hL (H _ _ h1)) h4
        simpa only [List.append_assoc] using this
      · cases hR
        rw [List.append_nil]
        exact hL
  intro p R hR
  obtain ⟨L, M, h1, h2, rfl⟩ := pb_inv hR
  exact key _ _ _ _ ((H _ _ h1).mono (by omega)) h2
theorem lv_good {T : Nat → Int32} : ∀ L, PG (3 * L) false (lvP T L).1.1 ∧ PG (3 * L) false (lvP T L).1.2 ∧ PG (3 * L + 1) true (lvP T L).2.1 ∧ PG (3 * L + 3) true (lvP T L).2.2 := by
  intro L
  induction L with
  | zero => exact ⟨fun p R h => (by cases h), fun p R h => (by cases h), fun p R h => (by cases h), fun p R h => (by cases h)⟩
  | succ L ih =>
    obtain ⟨i1, i2, i3, i4⟩ := ih
    have br1 : ∀ p R, (pbr T (lvP T L).1.2 1 p).1 = some R → Gd (3 * L) false R := by
      intro p R h
      unfold pbr at h
      split at h
      · rw [if_neg (by decide)] at h
        obtain ⟨A, B, h1, h2, rfl⟩ := pb_inv h
        rw [ptk_inv h2, List.append_nil]
        exact i2 _ _ h1
      · cases h
    have br2 : ∀ p R t, t = -27 ∨ t = -28 → (pbr T (lvP T L).1.2 2 p).1 = some R → Gd (3 * L + 1) false (R ++ [t]) := by
      intro p R t ht h
      unfold pbr at h
      split at h
      · rw [if_pos rfl] at h
        obtain ⟨A, B, h1, h2, rfl⟩ := pb_inv h
        obtain ⟨B1, B2, h3, h4, rfl⟩ := pb_inv h2
        obtain ⟨B3, B4, h5, h6, rfl⟩ := pb_inv h4
        rw [ptk_inv h3, ptk_inv h6, List.append_nil, List.nil_append, List.append_assoc]
        have g1 := (i2 _ _ h1).mono (h' := 3 * L + 1) (by omega)
        have g2 := i2 _ _ h5
        rcases ht with rfl | rfl
        · exact g1.bin g2 (by omega) (by decide) (by decide) (by decide) (by decide) (by decide) (by decide) (by decide) (by decide)
        · exact g1.bin g2 (by omega) (by decide) (by decide) (by decide) (by decide) (by decide) (by decide) (by decide) (by decide)
      · cases h
    have val : PG (3 * L + 1) false (pval T (lvP T L).1.1 (lvP T L).1.2) := by
      intro p R h
      unfold pval at h
      split at h
      · rename_i hq
        cases h
        exact (Gd.num hq).mono (by omega)
      split at h
      · obtain ⟨A, B, h1, h2, rfl⟩ := pb_inv h
        cases pem_inv h2
        exact ((i1 _ _ h1).mono (by omega)).one (fun _ x => -x) (fun r x st _ => ⟨rfl, fun e => (by cases e)⟩)
      split at h
      · exact (br1 _ _ h).mono (by omega)
      split at h
      · obtain ⟨A, B, h1, h2, rfl⟩ := pb_inv h
        cases pem_inv h2
        exact ((br1 _ _ h1).mono (by omega)).one hgV (fun r x st _ => ⟨rfl, fun e => (by cases e)⟩)
      split at h
      · rename_i hq
        obtain ⟨A, B, h1, h2, rfl⟩ := pb_inv h
        cases pem_inv h2
        exact br2 _ _ _ hq h1
      · cases h
    have sum : PG (3 * L + 3) false (pchn T (pchn T (pval T (lvP T L).1.1 (lvP T L).1.2) (jn 3)) (jn 2)) := by
      refine PG.chn (h' := 3 * L + 2) (PG.chn (h' := 3 * L + 1) val (by omega) (fun t A B hj g1 g2 => ?_)) (by omega) (fun t A B hj g1 g2 => ?_)
      · unfold jn at hj
        simp only [Bool.or_eq_true, decide_eq_true_eq] at hj
        rcases hj with rfl | rfl <;> exact g1.bin g2 (by omega) (by decide) (by decide) (by decide) (by decide) (by decide) (by decide) (by decide) (by decide)
      · unfold jn at hj
        simp only [Bool.or_eq_true, decide_eq_true_eq] at hj
        rcases hj with rfl | rfl <;> exact g1.bin g2 (by omega) (by decide) (by decide) (by decide) (by decide) (by decide) (by decide) (by decide) (by decide)
    have sng : PG (3 * L + 4) true (psg T (pchn T (pchn T (pval T (lvP T L).1.1 (lvP T L).1.2) (jn 3)) (jn 2)) (lvP T L).2.1 (lvP T L).2.2) := by
      intro p R h
      unfold psg at h
      split at h
      · obtain ⟨A, B, h1, h2, rfl⟩ := pb_inv h
        cases pem_inv h2
        refine ((i3 _ _ h1).mono (by omega)).one (fun _ x => if x = 0 then 1 else 0) (fun r x st hx => ?_)
        rcases hx rfl with rfl | rfl
        · exact ⟨rfl, fun _ => Or.inr rfl⟩
        · exact ⟨rfl, fun _ => Or.inl rfl⟩
      split at h
      · obtain ⟨A, B, h1, h2, rfl⟩ := pb_inv h
        rw [ptk_inv h2, List.append_nil]
        exact (i4 _ _ h1).mono (by omega)
      · obtain ⟨A, B, h1, h2, rfl⟩ := pb_inv h
        split at h2
        · rename_i hc
          obtain ⟨C, D, h3, h4, rfl⟩ := pb_inv h2
          cases pem_inv h4
          exact ((sum _ _ h1).mono (by omega)).cmp (sum _ _ h3) (by omega) hc
        · cases h2
    refine ⟨fun p R h => (val p R h).mono (by omega), fun p R h => (sum p R h).mono (by omega), fun p R h => (sng p R h).mono (by omega), ?_⟩
    refine PG.chn (h' := 3 * L + 5) (PG.chn (h' := 3 * L + 4) sng (by omega) (fun t A B hj g1 g2 => ?_)) (by omega) (fun t A B hj g1 g2 => ?_)
    · unfold jn at hj
      exact g1.log g2 (by omega) (Or.inl (of_decide_eq_true hj))
    · unfold jn at hj
      exact g1.log g2 (by omega) (Or.inr (of_decide_eq_true hj))
theorem sum_good {T : Nat → Int32} {p : Nat} {R : List Int32} (h : (sumP T p).1 = some R) : Gd 60 false R := ((lv_good 9).2.1 p R h).mono (by omega)
theorem tst_good {T : Nat → Int32} {p : Nat} {R : List Int32} (h : (tstP T p).1 = some R) : Gd 60 true R := ((lv_good 9).2.2.2 p R h).mono (by omega)
theorem tst_part {T : Nat → Int32} {q : Nat} {W : Option (List Int32)} (hW : (if T q = -6 then ((tstP T (q + 1)).1.map some, (tstP T (q + 1)).2) else (some none, q)).1 = some W) : Gd 60 true (W.getD [1]) := by
  split at hW
  · replace hW : (tstP T (q + 1)).1.map some = some W := hW
    rw [Option.map_eq_some_iff] at hW
    obtain ⟨w, h1, h2⟩ := hW
    subst h2
    exact tst_good h1
  · cases hW
    intro r
    exact ⟨1, fun _ => Or.inr rfl, fun st hs => (by unfold Option.getD runL stp; rw [if_neg (by decide), if_pos (by decide), if_pos (by omega)]; rfl)⟩
theorem pln_good {T : Nat → Int32} {p : Nat} {ln : LN} (ho : isOr (T p) = true) (h : (pln T p).1 = some ln) : LG ln := by
  unfold pln at h
  obtain ⟨A, hA, h⟩ := pbb_inv h
  obtain ⟨_, _, h⟩ := pbb_inv h
  obtain ⟨F, hF, h⟩ := pbb_inv h
  obtain ⟨_, _, h⟩ := pbb_inv h
  obtain ⟨G, hG, h⟩ := pbb_inv h
  obtain ⟨W, hW, h⟩ := pbb_inv h
  obtain ⟨_, _, h⟩ := pbb_inv h
  cases h
  refine ⟨ho, ?_, sum_good hF, sum_good hG, ?_⟩
  · show Gd 60 false (if T p = -15 then [0] else A)
    by_cases hl : T p = -15
    · rw [if_pos hl]
      exact (Gd.num (by decide)).mono (by omega)
    · rw [if_neg hl] at hA ⊢
      exact sum_good hA
  · exact tst_part hW
theorem plns_good {T : Nat → Int32} : ∀ k p l, (plns T k p).1 = some l → ∀ ln ∈ l, LG ln := by
  intro k
  induction k with
  | zero =>
    intro p l h ln hl
    cases h
    cases hl
  | succ k ih =>
    intro p l h ln hl
    rw [plns] at h
    split at h
    · rename_i ho
      obtain ⟨x, hx, h⟩ := pbb_inv h
      obtain ⟨l', hl', h⟩ := pbb_inv h
      cases h
      rcases List.mem_cons.mp hl with rfl | h'
      · exact pln_good ho hx
      · exact ih _ _ hl' _ h'
    · cases h
      cases hl
theorem pva_good {T : Nat → Int32} {n : Option Int32} {l : List LN} (h : (pva T).1 = some (n, l)) : ∀ ln ∈ l, LG ln := by
  unfold pva at h
  obtain ⟨n', _, h⟩ := pbb_inv h
  obtain ⟨l', hl, h⟩ := pbb_inv h
  split at h
  · cases h
    exact plns_good _ _ _ hl
  · cases h
