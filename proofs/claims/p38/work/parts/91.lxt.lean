/-! the law's texts, cut into tokens -/
def LXs (B : Nat → Nat) (len : Nat) (w : List Nat) (ts : List Int32) : Prop := ∀ p, Wd B len p w → Lx B len ts p (p + w.length)
theorem LXs.app {B : Nat → Nat} {len : Nat} {a b : List Nat} {ta tb : List Int32} (ha : LXs B len a ta) (hb : LXs B len b tb) : LXs B len (a ++ b) (ta ++ tb) := by
  intro p hw
  obtain ⟨h1, h2⟩ := hw.app
  rw [List.length_append, ← Nat.add_assoc]
  exact (ha p h1).app (hb _ h2)
theorem LXs.nil {B : Nat → Nat} {len : Nat} : LXs B len [] [] := fun p _ => by
  rw [List.length_nil, Nat.add_zero]
  exact Lx.nil
theorem LXs.bl {B : Nat → Nat} {len c : Nat} (hl : len ≤ 2000) (hc : c = 32 ∨ c = 10) : LXs B len [c] [] := fun p hw => by
  refine Lx.bl hl ?_
  rw [(hw.cons).1]
  rcases hc with rfl | rfl <;> decide
theorem LXs.sy {B : Nat → Nat} {len c : Nat} {t : Int32} (hc : symOK c t = true) : LXs B len [c] [t] := fun p hw => Lx.sy hw.cons.1 hc
def wdOK (w : List Nat) (t : Int32) : Bool := w.all (fun c => isLe (nI c)) && (w.all (fun c => decide (c < 256)) && (decide (1 ≤ w.length) && (decide (w.length ≤ 10) && decide (lkL w WL = t))))
theorem LXs.wd {B : Nat → Nat} {len c : Nat} {w : List Nat} {t : Int32} {t2 : List Int32} (hl : wdOK w t = true) (hc : (isLe (nI c) || isDi (nI c)) = false) (h2 : LXs B len [c] t2) : LXs B len (w ++ [c]) (t :: t2) := fun p hw => by
  obtain ⟨h1, h3⟩ := hw.app
  rw [List.length_append, ← Nat.add_assoc]
  have hn : (isLe (gB B len (p + w.length)) || isDi (gB B len (p + w.length))) = false := by
    rw [h3.cons.1]
    exact hc
  exact (Lx.wd h1 hl hn).app (h2 _ h3)
theorem LXs.nm {B : Nat → Nat} {len n c : Nat} {t2 : List Int32} (hn : n < 1000000) (hc : isDi (nI c) = false) (h2 : LXs B len [c] t2) : LXs B len (dig n ++ [c]) (nI n :: t2) := fun p hw => by
  obtain ⟨h1, h3⟩ := hw.app
  rw [List.length_append, ← Nat.add_assoc]
  have hd : isDi (gB B len (p + (dig n).length)) = false := by
    rw [h3.cons.1]
    exact hc
  exact (Lx.nm hn h1 hd).app (h2 _ h3)
theorem LXs.c1 {B : Nat → Nat} {len c d : Nat} {w : List Nat} {t : Int32} {tb : List Int32} (hc : (c = 60 ∧ t = -33) ∨ (c = 62 ∧ t = -34)) (hd : d < 256) (h61 : ¬ d = 61) (hb : LXs B len (d :: w) tb) : LXs B len ([c] ++ (d :: w)) ([t] ++ tb) := fun p hw => by
  obtain ⟨h1, h3⟩ := hw.app
  rw [List.length_append, ← Nat.add_assoc]
  refine (Lx.cmp1 h1.cons.1 ?_ hc).app (hb _ h3)
  have e := h3.cons.1
  rw [show p + [c].length = p + 1 from rfl] at e
  rw [e]
  exact fun z => h61 ((nI_eq (a := d) (b := 61) (by omega) (by omega)).mp z)
theorem LXs.c2 {B : Nat → Nat} {len c : Nat} {t : Int32} (hc : (c = 60 ∧ t = -36) ∨ (c = 62 ∧ t = -37)) : LXs B len [c, 61] [t] := fun p hw => by
  obtain ⟨h0, h1⟩ := hw.cons
  exact Lx.cmp2 h0 h1.cons.1 hc
def txF (f : Nat) (ty : Bool) (x : Int32) (dp : Nat) : List Nat := fld nodeTx [] f ty x dp
theorem txF_s (f : Nat) (ty : Bool) (x : Int32) (dp : Nat) : txF (f + 1) ty x dp = nodeTx (kdG ty x dp) (nmG ty x) (txF f (chA ty x dp).1 (chA ty x dp).2 (dp + 1)) (txF f (chB ty x dp).1 (chB ty x dp).2 (dp + 1)) := rfl
theorem tx_hd {f : Nat} {x : Int32} {dp : Nat} (hdp : 1 < dp) (hf : 1 ≤ f) : ∃ c w, txF f false x dp = c :: w ∧ c < 256 ∧ ¬ c = 61 := by
  obtain ⟨f, rfl⟩ : ∃ g, f = g + 1 := ⟨f - 1, by omega⟩
  have hk := (kdS_ok x dp).2 hdp
  have ek : kdG false x dp = kdS x dp := rfl
  have hnm := nmG_ok false x
  rw [txF_s, ek]
  generalize kdS x dp = k at *
  generalize nmG false x = n at *
  unfold nodeTx
  by_cases h : k = 0
  · rw [if_pos h]
    have hl := dgk_len (nd n) n
    have hlb := dgk_lb (nd n) n
    have hdi := dgk_di (nd n) n
    have hnd := nd_ok hnm
    unfold dig
    generalize dgk (nd n) n = w at *
    cases w with
    | nil => rw [List.length_nil] at hl; omega
    | cons c w =>
      have h256 := hlb c List.mem_cons_self
      have dc := hdi c List.mem_cons_self
      refine ⟨c, w ++ lsb 22, rfl, by omega, fun e => ?_⟩
      rw [e] at dc
      revert dc
      decide
  · rw [if_neg h, if_pos hk]
    have : k = 1 ∨ k = 2 ∨ k = 3 ∨ k = 4 ∨ k = 5 ∨ k = 6 := by omega
    rcases this with rfl | rfl | rfl | rfl | rfl | rfl
    · exact ⟨100, [97, 121, 32], rfl, by omega, by omega⟩
    · exact ⟨112, [117, 115, 104, 101, 115, 32], rfl, by omega, by omega⟩
    · exact ⟨119, [97, 116, 101, 114, 32], rfl, by omega, by omega⟩
    · exact ⟨104, [105, 103, 104, 101, 115, 116, 32], rfl, by omega, by omega⟩
    · exact ⟨108, [111, 119, 101, 115, 116, 32], rfl, by omega, by omega⟩
    · exact ⟨119, [97, 105, 116, 105, 110, 103, 32], rfl, by omega, by omega⟩
theorem kd_cas {k : Nat} (h : k < 15 ∨ (20 ≤ k ∧ k < 25) ∨ (26 ≤ k ∧ k < 29)) : k = 0 ∨ k = 1 ∨ k = 2 ∨ k = 3 ∨ k = 4 ∨ k = 5 ∨ k = 6 ∨ k = 7 ∨ k = 8 ∨ k = 9 ∨ k = 10 ∨ k = 11 ∨ k = 12 ∨ k = 13 ∨ k = 14 ∨ k = 20 ∨ k = 21 ∨ k = 22 ∨ k = 23 ∨ k = 24 ∨ k = 26 ∨ k = 27 ∨ k = 28 := by omega
theorem lex_tree {B : Nat → Nat} {len : Nat} (hl : len ≤ 2000) : ∀ (f : Nat) (ty : Bool) (x : Int32) (dp : Nat), 1 ≤ dp → fuelOK f ty dp → LXs B len (txF f ty x dp) (tkF f ty x dp)
  | 0, ty, _, dp, _, h => by
    unfold fuelOK at h
    split at h <;> split at h <;> omega
  | f + 1, ty, x, dp, hdp, hf => by
    have hk := kdG_ok ty x dp
    have hc := fun h7 => fuel_ch (x := x) hdp hf h7
    have hnm := nmG_ok ty x
    have Ra := fun h7 => lex_tree (B := B) hl f (chA ty x dp).1 (chA ty x dp).2 (dp + 1) (by omega) (hc h7).1
    have Rb := fun h7 => lex_tree (B := B) hl f (chB ty x dp).1 (chB ty x dp).2 (dp + 1) (by omega) (hc h7).2
    have hB : 20 ≤ kdG ty x dp → kdG ty x dp < 25 → ∃ c w, txF f (chB ty x dp).1 (chB ty x dp).2 (dp + 1) = c :: w ∧ c < 256 ∧ ¬ c = 61 := by
      intro h1 h2
      have ht : ty = true := by
        cases ty with
        | true => rfl
        | false =>
          have := (kdS_ok x dp).1
          have e : kdG false x dp = kdS x dp := rfl
          omega
      subst ht
      have e : kdG true x dp = kdT x dp := rfl
      have eb : chB true x dp = (false, x * 5 + 1) := by
        unfold chB; rw [if_pos rfl, if_pos (by omega)]
      rw [eb]
      refine tx_hd (by omega) ?_
      unfold fuelOK at hf
      rw [if_pos rfl] at hf
      split at hf <;> omega
    rw [txF_s, tkF_s]
    generalize kdG ty x dp = k at *
    generalize nmG ty x = nm at *
    generalize txF f (chA ty x dp).1 (chA ty x dp).2 (dp + 1) = xa at *
    generalize txF f (chB ty x dp).1 (chB ty x dp).2 (dp + 1) = xb at *
    generalize tkF f (chA ty x dp).1 (chA ty x dp).2 (dp + 1) = ka at *
    generalize tkF f (chB ty x dp).1 (chB ty x dp).2 (dp + 1) = kb at *
    have b32 := LXs.bl (B := B) (c := 32) hl (Or.inl rfl)
    have s40 : LXs B len [40] [-7] := LXs.sy (by decide)
    have s41 : LXs B len [41] [-8] := LXs.sy (by decide)
    have s44 : LXs B len [44] [-12] := LXs.sy (by decide)
    have s91 : LXs B len [91] [-9] := LXs.sy (by decide)
    have s93 : LXs B len [93] [-10] := LXs.sy (by decide)
    have hall := kd_cas hk
    clear hk
    rcases hall with rfl | rfl | rfl | rfl | rfl | rfl | rfl | rfl | rfl | rfl | rfl | rfl | rfl | rfl | rfl | rfl | rfl | rfl | rfl | rfl | rfl | rfl | rfl
    · exact LXs.nm hnm (by decide) b32
    · exact LXs.wd (w := [100, 97, 121]) (t := cod 1) (by decide) (by decide) b32
    · exact LXs.wd (w := [112, 117, 115, 104, 101, 115]) (t := cod 2) (by decide) (by decide) b32
    · exact LXs.wd (w := [119, 97, 116, 101, 114]) (t := cod 3) (by decide) (by decide) b32
    · exact LXs.wd (w := [104, 105, 103, 104, 101, 115, 116]) (t := cod 4) (by decide) (by decide) b32
    · exact LXs.wd (w := [108, 111, 119, 101, 115, 116]) (t := cod 5) (by decide) (by decide) b32
    · exact LXs.wd (w := [119, 97, 105, 116, 105, 110, 103]) (t := cod 6) (by decide) (by decide) b32
    · exact (LXs.wd (w := [104, 101, 105, 103, 104, 116]) (t := -22) (by decide) (by decide) s40).app ((Ra (by omega)).app s41)
    · exact ((LXs.sy (c := 45) (t := -30) (by decide)).app (b32.app s40)).app ((Ra (by omega)).app s41)
    · exact s40.app ((Ra (by omega)).app (s41.app ((LXs.sy (c := 43) (t := cod 9) (by decide)).app (s40.app ((Rb (by omega)).app s41)))))
    · exact s40.app ((Ra (by omega)).app (s41.app ((LXs.sy (c := 45) (t := cod 10) (by decide)).app (s40.app ((Rb (by omega)).app s41)))))
    · exact s40.app ((Ra (by omega)).app (s41.app ((LXs.sy (c := 42) (t := cod 11) (by decide)).app (s40.app ((Rb (by omega)).app s41)))))
    · exact s40.app ((Ra (by omega)).app (s41.app ((LXs.sy (c := 47) (t := cod 12) (by decide)).app (s40.app ((Rb (by omega)).app s41)))))
    · exact (LXs.wd (w := [109, 105, 110]) (t := cod 13) (by decide) (by decide) s40).app ((Ra (by omega)).app (s44.app ((Rb (by omega)).app s41)))
    · exact (LXs.wd (w := [109, 97, 120]) (t := cod 14) (by decide) (by decide) s40).app ((Ra (by omega)).app (s44.app ((Rb (by omega)).app s41)))
    · obtain ⟨c, w, e, h1, h2⟩ := hB (by omega) (by omega)
      have Rb := Rb (by omega)
      rw [e] at Rb ⊢
      exact (Ra (by omega)).app (LXs.c1 (c := 60) (t := cod 20) (Or.inl ⟨rfl, by decide⟩) h1 h2 Rb)
    · obtain ⟨c, w, e, h1, h2⟩ := hB (by omega) (by omega)
      have Rb := Rb (by omega)
      rw [e] at Rb ⊢
      exact (Ra (by omega)).app (LXs.c1 (c := 62) (t := cod 21) (Or.inr ⟨rfl, by decide⟩) h1 h2 Rb)
    · exact (Ra (by omega)).app ((LXs.sy (c := 61) (t := cod 22) (by decide)).app (Rb (by omega)))
    · exact (Ra (by omega)).app ((LXs.c2 (c := 60) (t := cod 23) (Or.inl ⟨rfl, by decide⟩)).app (Rb (by omega)))
    · exact (Ra (by omega)).app ((LXs.c2 (c := 62) (t := cod 24) (Or.inr ⟨rfl, by decide⟩)).app (Rb (by omega)))
    · exact (LXs.wd (w := [110, 111, 116]) (t := -23) (by decide) (by decide) s91).app ((Ra (by omega)).app s93)
    · exact s91.app ((Ra (by omega)).app (s93.app ((LXs.wd (w := [97, 110, 100]) (t := cod 27) (by decide) (by decide) s91).app ((Rb (by omega)).app s93))))
    · exact s91.app ((Ra (by omega)).app (s93.app ((LXs.wd (w := [111, 114]) (t := cod 28) (by decide) (by decide) s91).app ((Rb (by omega)).app s93))))
theorem wdN_lt (x : Int32) : wdN x < 3 := by
  unfold wdN
  split
  · omega
  · split <;> omega
/-- an order's text -/
def ordT (x : Int32) : List Nat := (if wdN x = 0 then lsb 3 ++ txF 3 false (x >>> 3) 1 else if wdN x = 1 then lsb 33 ++ txF 3 false (x >>> 3) 1 else lsb 34) ++ (lsb 35 ++ (txF 3 false (x >>> 4) 2 ++ (lsb 36 ++ (txF 3 false (x >>> 6) (blw (x >>> 5) 2 + 1) ++ ((if blw (x >>> 7) 2 = 0 then [] else lsb 38 ++ txF 3 true (x >>> 2) 1) ++ lsb 39)))))
theorem lex_ord {B : Nat → Nat} {len : Nat} (hl : len ≤ 2000) (x : Int32) : LXs B len (ordT x) (lnT x) := by
  have hb := blw_lt (v := x >>> 5) (n := 2) (by omega)
  have b32 := LXs.bl (B := B) (c := 32) hl (Or.inl rfl)
  have T1 := lex_tree (B := B) hl 3 false (x >>> 3) 1 (by omega) (by unfold fuelOK; decide)
  have T2 := lex_tree (B := B) hl 3 false (x >>> 4) 2 (by omega) (by unfold fuelOK; decide)
  have T3 := lex_tree (B := B) hl 3 false (x >>> 6) (blw (x >>> 5) 2 + 1) (by omega) (by
    unfold fuelOK
    rw [if_neg Bool.false_ne_true]
    split <;> omega)
  have T4 := lex_tree (B := B) hl 3 true (x >>> 2) 1 (by omega) (by unfold fuelOK; decide)
  have tl : LXs B len (lsb 35 ++ (txF 3 false (x >>> 4) 2 ++ (lsb 36 ++ (txF 3 false (x >>> 6) (blw (x >>> 5) 2 + 1) ++ ((if blw (x >>> 7) 2 = 0 then [] else lsb 38 ++ txF 3 true (x >>> 2) 1) ++ lsb 39))))) ((-4 : Int32) :: (tkF 3 false (x >>> 4) 2 ++ ((-5 : Int32) :: (tkF 3 false (x >>> 6) (blw (x >>> 5) 2 + 1) ++ (lnTw x ++ [-11]))))) := by
    have W : LXs B len (if blw (x >>> 7) 2 = 0 then [] else lsb 38 ++ txF 3 true (x >>> 2) 1) (lnTw x) := by
      unfold lnTw
      by_cases h : blw (x >>> 7) 2 = 0
      · rw [if_pos h, if_pos h]
        exact LXs.nil
      · rw [if_neg h, if_neg h]
        exact (LXs.wd (w := [119, 104, 101, 110]) (t := -6) (by decide) (by decide) b32).app T4
    exact (LXs.wd (w := [102, 114, 111, 109]) (t := -4) (by decide) (by decide) b32).app (T2.app ((LXs.wd (w := [116, 111]) (t := -5) (by decide) (by decide) b32).app (T3.app (W.app (LXs.sy (c := 59) (t := -11) (by decide))))))
  unfold ordT lnT lnTa
  rcases wd_ok x with ⟨h1, h2⟩ | ⟨h1, h2⟩ | ⟨h1, h2⟩
  · have e : wdN x = 0 := by
      have := wdN_lt x
      exact (nI_eq (a := wdN x) (b := 0) (by omega) (by omega)).mp h1
    rw [if_pos e, h2, if_neg (show ¬ ((-13 : Int32) = -15) by decide)]
    exact ((LXs.wd (w := [114, 97, 105, 110]) (t := -13) (by decide) (by decide) b32).app T1).app tl
  · have e : wdN x = 1 := by
      have := wdN_lt x
      exact (nI_eq (a := wdN x) (b := 1) (by omega) (by omega)).mp h1
    rw [if_neg (by omega), if_pos e, h2, if_neg (show ¬ ((-14 : Int32) = -15) by decide)]
    exact ((LXs.wd (w := [108, 101, 118, 101, 108]) (t := -14) (by decide) (by decide) b32).app T1).app tl
  · have e : wdN x = 2 := by
      have := wdN_lt x
      exact (nI_eq (a := wdN x) (b := 2) (by omega) (by omega)).mp h1
    rw [if_neg (by omega), if_neg (by omega), h2, if_pos rfl]
    exact (LXs.wd (w := [108, 111, 111, 107]) (t := -15) (by decide) (by decide) b32).app tl
