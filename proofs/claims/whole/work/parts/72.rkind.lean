/-! the reference: what kind of token; hashes tell words apart -/
def ltN (c : Nat) : Nat := if 97 ≤ c ∧ c ≤ 122 then c - 96 else c - 48 + 27
def vch (c : Nat) : Bool := (decide (97 ≤ c) && decide (c ≤ 122)) || (decide (48 ≤ c) && decide (c ≤ 57))
def hR : List Nat → Nat
  | [] => 0
  | c :: l => 37 * hR l + ltN c
theorem ltN_b {c : Nat} (h : vch c = true) : 1 ≤ ltN c ∧ ltN c ≤ 36 := by
  unfold vch at h
  simp only [Bool.or_eq_true, Bool.and_eq_true, decide_eq_true_eq] at h
  unfold ltN
  split <;> omega
theorem ltN_inj {c e : Nat} (h : vch c = true) (h' : vch e = true) (he : ltN c = ltN e) : c = e := by
  unfold vch at h h'
  simp only [Bool.or_eq_true, Bool.and_eq_true, decide_eq_true_eq] at h h'
  unfold ltN at he
  split at he <;> split at he <;> omega
theorem hR_inj : ∀ (l l' : List Nat), l.all vch = true → l'.all vch = true → hR l = hR l' → l = l'
  | [], [], _, _, _ => rfl
  | [], c :: l', _, h', e => by
    simp only [List.all_cons, Bool.and_eq_true] at h'
    have := ltN_b h'.1
    simp only [hR] at e
    omega
  | c :: l, [], h, _, e => by
    simp only [List.all_cons, Bool.and_eq_true] at h
    have := ltN_b h.1
    simp only [hR] at e
    omega
  | c :: l, c' :: l', h, h', e => by
    simp only [List.all_cons, Bool.and_eq_true] at h h'
    have b1 := ltN_b h.1
    have b2 := ltN_b h'.1
    simp only [hR] at e
    have e1 : ltN c = ltN c' := by omega
    have e2 : hR l = hR l' := by omega
    rw [ltN_inj h.1 h'.1 e1, hR_inj l l' h.2 h'.2 e2]
theorem hR_b : ∀ (l : List Nat), l.all vch = true → hR l < 37 ^ l.length
  | [], _ => by simp [hR]
  | c :: l, h => by
    simp only [List.all_cons, Bool.and_eq_true] at h
    have b1 := ltN_b h.1
    have b2 := hR_b l h.2
    rw [hR, List.length_cons, Nat.pow_succ]
    omega
theorem ltI_n : (List.range 128).all (fun c => !vch c || decide ((ltI (nI c)).toInt64 = Int64.ofNat (ltN c))) = true := by decide +kernel
theorem hsh_R : ∀ (v : List Nat), v.all vch = true → hsh v.reverse 0 = Int64.ofNat (hR v)
  | [], _ => rfl
  | c :: l, h => by
    simp only [List.all_cons, Bool.and_eq_true] at h
    have hc : c < 128 := by
      have := h.1
      unfold vch at this
      simp only [Bool.or_eq_true, Bool.and_eq_true, decide_eq_true_eq] at this
      omega
    have e := List.all_eq_true.mp ltI_n c (List.mem_range.mpr hc)
    rw [h.1, Bool.not_true, Bool.false_or, decide_eq_true_eq] at e
    rw [List.reverse_cons, hsh_snoc, hsh_R l h.2, e, hR, Int64.ofNat_add, Int64.ofNat_mul]
    rfl
theorem hsh_inj {v w : List Nat} (hv : v.all vch = true) (hw : w.all vch = true) (lv : v.length ≤ 10) (lw : w.length ≤ 10) : (hsh v 0 = hsh w 0) ↔ v = w := by
  refine ⟨fun h => ?_, fun h => by rw [h]⟩
  have hv' : v.reverse.all vch = true := by rw [List.all_reverse]; exact hv
  have hw' : w.reverse.all vch = true := by rw [List.all_reverse]; exact hw
  have e1 := hsh_R v.reverse hv'
  have e2 := hsh_R w.reverse hw'
  rw [List.reverse_reverse] at e1 e2
  rw [e1, e2] at h
  have b1 := hR_b _ hv'
  have b2 := hR_b _ hw'
  rw [List.length_reverse] at b1 b2
  have p1 : 37 ^ v.length ≤ 37 ^ 10 := Nat.pow_le_pow_right (by omega) lv
  have p2 : 37 ^ w.length ≤ 37 ^ 10 := Nat.pow_le_pow_right (by omega) lw
  have p3 : (37 : Nat) ^ 10 < 2 ^ 63 := by decide
  have h' := congrArg Int64.toInt h
  rw [Int64.toInt_ofNat_of_lt (by omega), Int64.toInt_ofNat_of_lt (by omega)] at h'
  have h2 : hR v.reverse = hR w.reverse := by omega
  have h3 := hR_inj _ _ hv' hw' h2
  exact List.reverse_inj.mp h3
theorem bls_c {B : Nat → Nat} {p n : Nat} : bls B p (n + 1) = B p :: bls B (p + 1) n := by
  unfold bls
  rw [List.range_succ_eq_map, List.map_cons, List.map_map]
  congr 1
  apply List.map_congr_left
  intro i _
  show B (p + (i + 1)) = B (p + 1 + i)
  congr 1
  omega
theorem eqW_bls {B : Nat → Nat} {len : Nat} (hB : ∀ j, j < len → B j < 256) (hl : len ≤ 2000) : ∀ (w : List Nat) (a : Nat), a + w.length ≤ len → (∀ c ∈ w, c < 256) → (eqW B len a w = true ↔ w = bls B a w.length)
  | [], a, _, _ => ⟨fun _ => rfl, fun _ => rfl⟩
  | c :: w, a, h, hc => by
    rw [List.length_cons] at h ⊢
    rw [eqW, bls_c, Bool.and_eq_true, decide_eq_true_eq, eqW_bls hB hl w (a + 1) (by omega) (fun x hx => hc x (by simp [hx]))]
    have hg : gB B len a = nI (B a) := by unfold gB; rw [if_pos (by omega)]
    rw [hg, nI_eq (by have := hB a (by omega); omega) (by have := hc c (by simp); omega)]
    constructor
    · rintro ⟨e1, e2⟩
      rw [e1, ← e2]
    · intro e
      injection e with e1 e2
      exact ⟨e1.symm, e2⟩
theorem wek_all {g : Nat → Int32} : ∀ (k p j : Nat), p ≤ j → j < wek g k p → (isLe (g j) || isDi (g j)) = true
  | 0, p, j, h, h' => by simp only [wek] at h'; omega
  | k + 1, p, j, h, h' => by
    rw [wek] at h'
    split at h'
    · rename_i hb
      by_cases e : j = p
      · rw [e]; exact hb
      · exact wek_all k (p + 1) j (by omega) h'
    · omega
theorem byte_v {B : Nat → Nat} {len j : Nat} (hj : j < len) (hb : B j < 256) (h : (isLe (gB B len j) || isDi (gB B len j)) = true) : vch (B j) = true := by
  have hg : gB B len j = nI (B j) := by unfold gB; rw [if_pos hj]
  rw [hg] at h
  have key : (List.range 256).all (fun c => !(isLe (nI c) || isDi (nI c)) || vch c) = true := by decide +kernel
  have := List.all_eq_true.mp key (B j) (List.mem_range.mpr hb)
  rw [h, Bool.not_true, Bool.false_or] at this
  exact this
theorem bls_v {B : Nat → Nat} {p n : Nat} (h : ∀ j, p ≤ j → j < p + n → vch (B j) = true) : (bls B p n).all vch = true := by
  unfold bls
  rw [List.all_map, List.all_eq_true]
  intro i hi
  rw [List.mem_range] at hi
  exact h (p + i) (by omega) (by omega)
theorem bls_len {B : Nat → Nat} {p n : Nat} : (bls B p n).length = n := by
  unfold bls
  rw [List.length_map, List.length_range]
/-- codes of the class and kinds of the reference -/
def KL : List (Int32 × Int32) := [(-1, 33), (-3, 0), (-13, 1), (-14, 2), (-15, 3), (-4, 4), (-5, 5), (-6, 6), (-16, 7), (-17, 8), (-18, 9), (-19, 10), (-20, 11), (-21, 12), (-22, 13), (-23, 14), (-25, 15), (-26, 16), (-27, 17), (-28, 18), (-7, 40), (-8, 41), (-9, 91), (-10, 93), (-11, 59), (-12, 44), (-29, 43), (-30, 45), (-31, 42), (-32, 47), (-33, 60), (-34, 62), (-35, 61), (-36, 316), (-37, 318)]
def kmpL (t : Int32) : List (Int32 × Int32) → Int32
  | [] => 99
  | (a, b) :: r => if t = a then b else kmpL t r
def kmp (t : Int32) : Int32 := if ¬ t < 0 then 31 else kmpL t KL
def KR (t k : Int32) : Prop := (t = -2 ∧ (k = 30 ∨ k = 32)) ∨ (¬ t = -2 ∧ k = kmp t)
theorem kmpL_m {t b : Int32} : ∀ l, kmpL t l = b → ¬ b = 99 → (t, b) ∈ l
  | [], h, hb => absurd h.symm hb
  | (a, c) :: r, h, hb => by
    rw [kmpL] at h
    split at h
    · rename_i e
      rw [e, ← h]
      exact List.mem_cons_self
    · exact List.mem_cons_of_mem _ (kmpL_m r h hb)
theorem KR_eq {t k c kc : Int32} (h : KR t k) (hc : kmp c = kc) (hn : ¬ c = -2) (h3 : ¬ kc = 30 ∧ ¬ kc = 32 ∧ ¬ kc = 31 ∧ ¬ kc = 99) (hu : KL.all (fun x => !decide (x.2 = kc) || decide (x.1 = c)) = true) : (k = kc) = (t = c) := by
  apply propext
  constructor
  · intro e
    rcases h with ⟨_, h1 | h1⟩ | ⟨_, h1⟩
    · exact absurd (e.symm.trans h1) h3.1
    · exact absurd (e.symm.trans h1) h3.2.1
    · rw [e] at h1
      unfold kmp at h1
      split at h1
      · exact absurd h1 h3.2.2.1
      · have hm := kmpL_m KL h1.symm h3.2.2.2
        have := List.all_eq_true.mp hu _ hm
        simpa using this
  · intro e
    rcases h with ⟨h1, _⟩ | ⟨_, h1⟩
    · exact absurd (e.symm.trans h1) hn
    · rw [h1, e, hc]
theorem KR_num {t k : Int32} (h : KR t k) : (k = 31) = ¬ t < 0 := by
  apply propext
  constructor
  · intro e
    rcases h with ⟨_, h1 | h1⟩ | ⟨_, h1⟩
    · rw [e] at h1; exact absurd h1 (by decide)
    · rw [e] at h1; exact absurd h1 (by decide)
    · rw [e] at h1
      unfold kmp at h1
      split at h1
      · assumption
      · have hm := kmpL_m KL h1.symm (by decide)
        have : KL.all (fun x => !decide (x.2 = 31)) = true := by decide
        have := List.all_eq_true.mp this _ hm
        simp at this
  · intro e
    rcases h with ⟨h1, _⟩ | ⟨_, h1⟩
    · rw [h1] at e; exact absurd (by decide) e
    · rw [h1]
      unfold kmp
      rw [if_pos e]
theorem WL_ok : (List.range 19).all (fun k => match WL[k]? with
  | some x => decide (kmp x.2 = nI k) && (!decide (x.2 = -2) && (x.1.all vch && decide (x.1.length ≤ 10)))
  | none => false) = true := by decide +kernel
theorem word_KR {B : Nat → Nat} {len p n : Nat} (hB : ∀ j, j < len → B j < 256) (hl : len ≤ 2000) (hp : p + n ≤ len) (hn : n ≤ 10) (hv : ∀ j, p ≤ j → j < p + n → vch (B j) = true) : ∀ (W : List (List Nat × Int32)) (k : Nat), WL.drop k = W → k + W.length = 19 → KR (lkW B len p (p + n) W) (wdK (hsh (bls B p n) 0) k W) := by
  intro W
  induction W with
  | nil => exact fun k _ _ => Or.inl ⟨rfl, Or.inl rfl⟩
  | cons x W ih =>
    intro k hk hkl
    obtain ⟨w, t⟩ := x
    rw [List.length_cons] at hkl
    have hkl' : k < WL.length := by
      have : WL.length = 19 := rfl
      omega
    have hx : WL[k]? = some (w, t) := by
      rw [List.drop_eq_getElem_cons hkl'] at hk
      rw [List.getElem?_eq_getElem hkl']
      injection hk with h _
      rw [h]
    have hk' : WL.drop (k + 1) = W := by
      rw [List.drop_eq_getElem_cons hkl'] at hk
      injection hk
    have hw := List.all_eq_true.mp WL_ok k (List.mem_range.mpr (by omega))
    rw [hx] at hw
    simp only [Bool.and_eq_true, decide_eq_true_eq, Bool.not_eq_true', decide_eq_false_iff_not] at hw
    obtain ⟨w1, w2, w3, w4⟩ := hw
    have hc256 : ∀ c ∈ w, c < 256 := fun c hc => by
      have := List.all_eq_true.mp w3 c hc
      unfold vch at this
      simp only [Bool.or_eq_true, Bool.and_eq_true, decide_eq_true_eq] at this
      omega
    have hsub : p + n - p = n := by omega
    rw [lkW, wdK, hsub]
    have iff1 : ((decide (w.length = n) && eqW B len p w) = true) ↔ w = bls B p n := by
      rw [Bool.and_eq_true, decide_eq_true_eq]
      constructor
      · rintro ⟨e1, e2⟩
        rw [eqW_bls hB hl w p (by omega) hc256, e1] at e2
        exact e2
      · intro e
        have e1 : w.length = n := by rw [e, bls_len]
        refine ⟨e1, ?_⟩
        rw [eqW_bls hB hl w p (by omega) hc256, e1]
        exact e
    have iff2 := hsh_inj w3 (bls_v hv) w4 (by rw [bls_len]; exact hn)
    by_cases h : w = bls B p n
    · rw [if_pos (iff1.mpr h), if_pos (iff2.mpr h)]
      exact Or.inr ⟨w2, w1.symm⟩
    · rw [if_neg (fun x => h (iff1.mp x)), if_neg (fun x => h (iff2.mp x))]
      exact ih (k + 1) hk' (by omega)
