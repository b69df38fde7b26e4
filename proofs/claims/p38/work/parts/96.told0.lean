/-! the law's valley told: what stays, how it stands at first -/
theorem SM.keep {τ τ' : MTau} {μ μ' : MMu} {o N : Nat} {C : SC} {V : Val} {pu days : Int32} (h : SM τ μ o C N V pu days) (hk : ∀ z, (τ z = some (.inl 9) ∨ (∃ n, τ z = some (.inr (0, n))) ∨ ∃ n, τ z = some (.inr (7, n))) → τ' z = τ z ∧ μ' z = μ z) : SM τ' μ' o C N V pu days := by
  obtain ⟨t0, f0, f1, f2, f3, f4, f5, tb, ta, hr, hz, hl, hj⟩ := h
  obtain ⟨o1, o2⟩ := hk o (Or.inl t0)
  obtain ⟨b1, b2⟩ := hk C.2.1 (Or.inr (Or.inl ⟨_, tb⟩))
  obtain ⟨a1, a2⟩ := hk C.2.2.1 (Or.inr (Or.inr ⟨_, ta⟩))
  refine ⟨o1.trans t0, by rw [o2]; exact f0, by rw [o2]; exact f1, by rw [o2]; exact f2, by rw [o2]; exact f3, by rw [o2]; exact f4, by rw [o2]; exact f5, b1.trans tb, a1.trans ta, fun b h1 hb he => ?_, fun b hb he => by rw [a2]; exact hz b hb he, fun b h1 hb he hi => by rw [b2]; exact hl b h1 hb he hi, hj⟩
  obtain ⟨r0, r1, r2⟩ := hr b h1 hb he
  obtain ⟨e1, e2⟩ := hk (C.2.2.2 b) (Or.inr (Or.inl ⟨_, r1⟩))
  refine ⟨by rw [a2]; exact r0, ?_⟩
  unfold SMR
  rw [e1, e2]
  exact ⟨r1, r2⟩
/-- the row that stands there -/
def rwM (μ : MMu) (a c : Nat) : Nat := match μ a c with
  | .ref r => r
  | _ => 0
theorem SM.zero {N o od ba a : Nat} {τ0 τ : MTau} {μ : MMu} (h2 : 2 ≤ N) (h32 : N ≤ 32) (t0 : τ o = some (.inl 9)) (f0 : μ o 0 = .int (nI N)) (f1 : μ o 1 = .int 0) (f2 : μ o 2 = .int 0) (f3 : μ o 3 = .ref od) (f4 : μ o 4 = .ref ba) (f5 : μ o 5 = .ref a) (tb : τ ba = some (.inr (0, 32))) (hb0 : ∀ j, μ ba j = .int 0) (ta : τ a = some (.inr (7, 64))) (hn : ∀ c, c < 64 → gEx N c = false → μ a c = .null) (hL : LAY N τ0 τ μ a 1) (hJ : LAJ N μ a 1) : SM τ μ o (od, ba, a, rwM μ a) N zV 0 0 := by
  have hrw : ∀ c, 1 ≤ c → c < 64 → gEx N c = true → μ a c = .ref (rwM μ a c) ∧ RWF N τ μ (rwM μ a c) c := by
    intro c h1 hc he
    obtain ⟨r, r1, -, r2⟩ := hL c (un_1 h1 hc) hc he
    have : rwM μ a c = r := by
      unfold rwM
      rw [r1]
    rw [this]
    exact ⟨r1, r2⟩
  refine ⟨t0, f0, f1, f2, f3, f4, f5, tb, ta, fun b h1 hb he => ?_, hn, fun b _ _ _ _ => hb0 _, fun x y x1 x2 x3 y1 y2 y3 e => ?_⟩
  · obtain ⟨r1, r2, r3, r4, r5, r6, r7⟩ := hrw b h1 hb he
    obtain ⟨e1, e2, -⟩ := fl_ex h2 h32 hb he
    refine ⟨r1, r2, by rw [e1]; exact r3, by rw [e2]; exact r4, r5, ⟨0, r6, fun _ => rfl⟩, r7⟩
  · have ex := (hrw x x1 x2 x3).1
    have ey := (hrw y y1 y2 y3).1
    have e' : rwM μ a x = rwM μ a y := e
    rw [← e'] at ey
    exact hJ x y _ (un_1 x1 x2) (un_1 y1 y2) x2 y2 x3 y3 ex ey
theorem lnsB_app : ∀ (xs : List Int32) (x : Int32), lnsB (xs ++ [x]) = lnsB xs ++ ([10] ++ ordT x)
  | [], x => by
    show [10] ++ (ordT x ++ []) = [] ++ ([10] ++ ordT x)
    rw [List.append_nil]
    rfl
  | y :: xs, x => by
    show [10] ++ (ordT y ++ lnsB (xs ++ [x])) = ([10] ++ (ordT y ++ lnsB xs)) ++ ([10] ++ ordT x)
    rw [lnsB_app xs x]
    simp only [List.append_assoc]
theorem ordT_len (x : Int32) : (ordT x).length ≤ 241 := by
  have x1 := txF_len (f := 3) (ty := false) (x := x >>> 3) (dp := 1) (by omega)
  have x2 := txF_len (f := 3) (ty := false) (x := x >>> 4) (dp := 2) (by omega)
  have x3 := txF_len (f := 3) (ty := false) (x := x >>> 6) (dp := blw (x >>> 5) 2 + 1) (by omega)
  have x4 := txF_len (f := 3) (ty := true) (x := x >>> 2) (dp := 1) (by omega)
  have l3 := lsb_le 3
  have l33 := lsb_le 33
  have l34 := lsb_le 34
  have l35 := lsb_le 35
  have l36 := lsb_le 36
  have l38 := lsb_le 38
  have l39 := lsb_le 39
  unfold ordT
  generalize txF 3 false (x >>> 3) 1 = a1 at *
  generalize txF 3 false (x >>> 4) 2 = a2 at *
  generalize txF 3 false (x >>> 6) (blw (x >>> 5) 2 + 1) = a3 at *
  generalize txF 3 true (x >>> 2) 1 = a4 at *
  have w1 : (if wdN x = 0 then lsb 3 ++ a1 else if wdN x = 1 then lsb 33 ++ a1 else lsb 34).length ≤ 58 := by
    split
    · rw [List.length_append]; omega
    · split
      · rw [List.length_append]; omega
      · omega
  have w2 : (if blw (x >>> 7) 2 = 0 then [] else lsb 38 ++ a4).length ≤ 58 := by
    split
    · simp
    · rw [List.length_append]; omega
  simp only [List.length_append]
  omega
theorem lnsB_len : ∀ (xs : List Int32), (lnsB xs).length ≤ 242 * xs.length
  | [] => Nat.le_refl _
  | x :: xs => by
    have := lnsB_len xs
    have := ordT_len x
    show ([10] ++ (ordT x ++ lnsB xs)).length ≤ _
    simp only [List.length_append, List.length_cons, List.length_nil]
    omega
theorem hdB_len (n : Option Nat) : (hdB n).length ≤ 30 := by
  cases n with
  | none => exact Nat.zero_le _
  | some N =>
    have := dig_le N
    have l0 := lsb_le 0
    have l1 := lsb_le 1
    show (lsb 0 ++ (dig N ++ lsb 1)).length ≤ 30
    simp only [List.length_append]
    omega
theorem BST.put {E : MEnv} {τ0 τ τ' : MTau} {μ0 μ μ' : MMu} {o b od m : Nat} {w : List Nat} (h : BST E τ0 μ0 τ μ o b w) (hT : TX E τ τ') (hod : τ0 od = none) (tod : τ od = some (.inr (8, m))) (hk : ∀ z, τ z ≠ none → z ≠ od → μ' z = μ z) : BST E τ0 μ0 τ' μ' o b w := by
  obtain ⟨⟨h1, h2⟩, ⟨cap, ⟨a1, a2, a3, a4, a5, a6⟩, hc⟩, h3, h4⟩ := h
  have e1 := hk o (by rw [a1]; simp) (fun e => by rw [e, tod] at a1; cases a1)
  have e2 := hk b (by rw [a5]; simp) (fun e => by rw [e, tod] at a5; cases a5)
  refine ⟨⟨h1.trans hT, fun z hz => ?_⟩, ⟨cap, ⟨by rw [hT.1 o (by rw [a1]; simp)]; exact a1, by rw [e1]; exact a2, by rw [e1]; exact a3, by rw [e1]; exact a4, by rw [hT.1 b (by rw [a5]; simp)]; exact a5, by rw [e2]; exact a6⟩, hc⟩, h3, h4⟩
  rw [hk z (h1.no hz) (fun e => hz (by rw [e]; exact hod)), h2 z hz]
/-- what the script tells -/
def tN (L : Nat) (xs : Nat → Int32) : Option Nat := if blw (cellV L xs 0) 5 = 0 then none else some (2 + blw (cellV L xs 0 >>> 3) 31)
def tX (L : Nat) (xs : Nat → Int32) (k : Nat) : Int32 := (cellV L xs (2 + k) >>> 2) + nI (19 * k)
def tM (L : Nat) (xs : Nat → Int32) : Nat := blw (cellV L xs 1) 5
def tXs (L : Nat) (xs : Nat → Int32) (m : Nat) : List Int32 := (List.range m).map (tX L xs)
theorem tXs_s (L : Nat) (xs : Nat → Int32) (m : Nat) : tXs L xs (m + 1) = tXs L xs m ++ [tX L xs m] := by
  unfold tXs
  rw [List.range_succ, List.map_append]
  rfl
theorem tXs_len (L : Nat) (xs : Nat → Int32) (m : Nat) : (tXs L xs m).length = m := by
  unfold tXs
  rw [List.length_map, List.length_range]
theorem tN_ok (L : Nat) (xs : Nat → Int32) : ∀ N, tN L xs = some N → 2 ≤ N ∧ N ≤ 32 := by
  intro N h
  unfold tN at h
  split at h
  · cases h
  · have := blw_lt (v := cellV L xs 0 >>> 3) (n := 31) (by omega)
    injection h with h
    omega
