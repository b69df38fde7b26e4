/-! the start: what is read of it -/
theorem wl_ok : (List.range 19).all (fun i => decide ((wlW i).length < 100) && (wlW i).all (fun c => decide (c < 128))) = true := by decide +kernel
theorem wl_at {i : Nat} {w : List Nat} {t : Int32} (h : WL[i]? = some (w, t)) : i < 19 ∧ wlW i = w ∧ wlT i = t ∧ w.length < 100 ∧ ∀ c ∈ w, c < 128 := by
  have hi : i < 19 := (List.getElem?_eq_some_iff.mp h).1
  have e1 : wlW i = w := by unfold wlW; rw [List.getD_eq_getElem?_getD, h]; rfl
  have e2 : wlT i = t := by unfold wlT; rw [List.getD_eq_getElem?_getD, h]; rfl
  have q := List.all_eq_true.mp wl_ok i (List.mem_range.mpr hi)
  simp only [Bool.and_eq_true, decide_eq_true_eq] at q
  rw [e1] at q
  exact ⟨hi, e1, e2, q.1, fun c hc => of_decide_eq_true (List.all_eq_true.mp q.2 c hc)⟩
theorem ls_ok : (List.range 40).all (fun k => (lsb k).all (fun c => decide (c < 128))) = true := by decide +kernel
theorem ls_at {k : Nat} {w : List Nat} (h : LSB[k]? = some w) : k < 40 ∧ lsb k = w ∧ w.length < 100 ∧ ∀ c ∈ w, c < 128 := by
  have hk : k < 40 := (List.getElem?_eq_some_iff.mp h).1
  have e : lsb k = w := by unfold lsb; rw [List.getD_eq_getElem?_getD, h]; rfl
  have l9 := lsb_le k
  rw [e] at l9
  have q := List.all_eq_true.mp ls_ok k (List.mem_range.mpr hk)
  rw [e] at q
  exact ⟨hk, e, by omega, fun c hc => of_decide_eq_true (List.all_eq_true.mp q c hc)⟩
theorem tag_uni {a a' : Nat} (h : a = 0 ∨ a = 2 ∨ a = 5) (h' : a' = 0 ∨ a' = 2 ∨ a' = 5) (e : tyTag a = tyTag a') : a = a' := by
  rcases h with rfl | rfl | rfl <;> rcases h' with rfl | rfl | rfl <;> first | rfl | exact absurd e (by decide)
theorem vxZq_of {args : Array Value} {s : State} {C n d : String} {A : Nat → Prop} (hl : (Cond.laysStatic C n d).before args s = true) (hini : (Cond.initialized C).before args s = true) (h : (Cond.isRef (.static C n d)).before args s = true) (hA : ∀ a : Nat, a < s.heap.size → ¬ A a) : vx_Zq C n d A s s.heap := by
  refine ⟨va_Zqof hl hini h hA, ?_⟩
  obtain ⟨c, k, i, f, a, cell, h1, h2, h3, h4, h5, h6, h7, h8, h9⟩ := Cond.laysStatic_spec hl
  exact ⟨c, k, i, f, a, cell, h1, h2, h3, h4, h5, h6, h7, h8, h9, hA a (Array.getElem?_eq_some_iff.mp h5).1⟩
/-- a text of the start -/
theorem str_at {args : Array Value} {s : State} {A : Nat → Prop} {t : Term} {w : List Nat} (hA : ∀ a : Nat, a < s.heap.size → ¬ A a) (h : ∀ c ∈ swA t w, c.before args s = true) (hw : w.length < 100) : ∃ q : Nat × Nat, t.eval args s none [] s = some (.ref q.1) ∧ va_O "java/lang/String" q.1 A s s.heap ∧ va_OF "java/lang/String" "coder" "B" (.int 0) q.1 A s s.heap ∧ va_OF "java/lang/String" "value" "[B" (.ref q.2) q.1 A s s.heap ∧ va_T .byte q.2 w.length (fun j => .int (Int32.ofNat (w.getD j 0))) A s s.heap := by
  have hk : ∀ (k : Nat) {c : Cond}, (swA t w)[k]? = some c → c.before args s = true := fun k c hc => h c (List.mem_of_getElem? hc)
  have hex : (Cond.exactly t "java/lang/String").before args s = true := hk 0 rfl
  obtain ⟨a, c, cA, kA, q1, -⟩ := Cond.exactly_spec (args := args) (first := s) (o := none) (s := s) (idx := []) (t := t) (cls := "java/lang/String") hex
  have hEl : ∀ j, j < w.length → (Cond.eq (.elem (tmF t) (.int (Int32.ofNat j))) (.int (Int32.ofNat (w.getD j 0)))).before args s = true := fun j hj => h _ (List.mem_append_right _ (List.mem_map.mpr ⟨j, List.mem_range.mpr hj, rfl⟩))
  obtain ⟨v, hv, hT⟩ := va_Tof (tm := tmF t) (ty := .byte) (N := w.length) (f := fun j => .int (Int32.ofNat (w.getD j 0))) (A := A) (by omega) (hk 2 rfl) (va_eqt (hk 3 rfl)) (fun j hj => va_eqt (hEl j hj)) hA
  exact ⟨(a, v), q1, va_Oof hex q1 hA, vk_OFof q1 (va_eqt (hk 1 rfl)) hA, vk_OFof q1 hv hA, hT⟩
theorem env_at {s : State} {b L : Nat} {xs : Nat → Int32} (hts : ∀ w ∈ lw_tbl, w.before #[Value.ref b] s = true) (hX : va_X b L xs s s.heap) (hgv : (Jvm.Cond.and given_1 narrow_1).before #[Value.ref b] s = true) (hL : L ≤ 260) : ∃ (E : MEnv) (sL : Nat → Nat), EOK E (mA (fun _ => none) s.heap.size) s s.heap ∧ JE E (fun _ => none) ∧ LTX E (fun _ => none) ∧ KW E (fun _ => none) ∧ SCR E (fun _ => none) b L xs ∧ ∀ k, k < 40 → E.1 (100 + k) = .ref (sL k) ∧ (tmL k).eval #[Value.ref b] s none [] s = some (.ref (sL k)) := by
  have hA : ∀ a : Nat, a < s.heap.size → ¬ mA (fun _ => none) s.heap.size a := fun a ha h => h.elim (fun z => z rfl) (fun z => absurd ha (Nat.not_lt.mpr z))
  generalize mA (fun _ => none) s.heap.size = A at *
  have hF : ∀ w ∈ FLW, w.before #[Value.ref b] s = true := flat_of_before _ hgv
  have hN : ∀ {i : Nat}, i < 19 → ∀ (k : Nat) {w : Cond}, (kwA i)[k]? = some w → w.before #[Value.ref b] s = true := fun hi k w hw => hF _ (kwA_in hi _ (List.mem_of_getElem? hw))
  have hB : ∀ (k : Nat) {w : Cond}, nwB[k]? = some w → w.before #[Value.ref b] s = true := fun k w hw => hF _ (nwB_in k hw)
  have h100 : ∀ {i : Nat}, i < 19 → (wlW i).length < 100 := fun hi => by
    have q := List.all_eq_true.mp wl_ok _ (List.mem_range.mpr hi)
    simp only [Bool.and_eq_true, decide_eq_true_eq] at q
    exact q.1
  -- the keywords' texts
  have hS : ∀ i : Nat, ∃ q : Nat × Nat, i < 19 → (tmS i).eval #[Value.ref b] s none [] s = some (.ref q.1) ∧ va_O "java/lang/String" q.1 A s s.heap ∧ va_OF "java/lang/String" "coder" "B" (.int 0) q.1 A s s.heap ∧ va_OF "java/lang/String" "value" "[B" (.ref q.2) q.1 A s s.heap ∧ va_T .byte q.2 (wlW i).length (fun j => .int (Int32.ofNat ((wlW i).getD j 0))) A s s.heap := by
    intro i
    by_cases hi : i < 19
    · obtain ⟨q, hq⟩ := str_at (args := #[Value.ref b]) (t := tmS i) hA (fun c hc => hF _ (kwA_in hi _ (List.mem_append_right _ hc))) (h100 hi)
      exact ⟨q, fun _ => hq⟩
    · exact ⟨(0, 0), fun h => absurd h hi⟩
  obtain ⟨sA, hsA⟩ := Classical.axiomOfChoice hS
  -- the law's texts
  have hSL : ∀ k : Nat, ∃ q : Nat × Nat, k < 40 → (tmL k).eval #[Value.ref b] s none [] s = some (.ref q.1) ∧ va_O "java/lang/String" q.1 A s s.heap ∧ va_OF "java/lang/String" "coder" "B" (.int 0) q.1 A s s.heap ∧ va_OF "java/lang/String" "value" "[B" (.ref q.2) q.1 A s s.heap ∧ va_T .byte q.2 (lsb k).length (fun j => .int (Int32.ofNat ((lsb k).getD j 0))) A s s.heap := by
    intro k
    by_cases hk : k < 40
    · have l9 := lsb_le k
      obtain ⟨q, hq⟩ := str_at (args := #[Value.ref b]) (t := tmL k) hA (fun c hc => hF _ (okP_in (lsA_at hk) hc)) (by omega)
      exact ⟨q, fun _ => hq⟩
    · exact ⟨(0, 0), fun h => absurd h hk⟩
  obtain ⟨sB, hsB⟩ := Classical.axiomOfChoice hSL
  have hKs : ∀ i : Nat, ∃ a : Nat, i < 19 → (tmK i).eval #[Value.ref b] s none [] s = some (.ref a) ∧ va_O "TerraceRain$Keyword" a A s s.heap ∧ va_OF "TerraceRain$Keyword" "text" "Ljava/lang/String;" (.ref (sA i).1) a A s s.heap ∧ va_OF "TerraceRain$Keyword" "token" "I" (.int (wlT i)) a A s s.heap := by
    intro i
    by_cases hi : i < 19
    · have hex : (Cond.exactly (tmK i) "TerraceRain$Keyword").before #[Value.ref b] s = true := hN hi 0 rfl
      obtain ⟨a, c, cA, kA, q1, -⟩ := Cond.exactly_spec (args := #[Value.ref b]) (first := s) (o := none) (s := s) (idx := []) (t := tmK i) (cls := "TerraceRain$Keyword") hex
      exact ⟨a, fun _ => ⟨q1, va_Oof hex q1 hA, vk_OFof q1 (ev_ref (hN hi 1 rfl) (hsA i hi).1) hA, vk_OFof q1 (va_eqt (hN hi 2 rfl)) hA⟩⟩
    · exact ⟨0, fun h => absurd h hi⟩
  obtain ⟨kA, hkA⟩ := Classical.axiomOfChoice hKs
  obtain ⟨kw, hkw, hkT⟩ := va_Tof (tm := tmKW) (ty := .object "TerraceRain$Keyword") (N := 19) (f := fun j => .ref (kA j)) (A := A) (by decide) (hB 0 rfl) (va_eqt (hB 1 rfl)) (fun j hj => ev_ref (hN hj 3 rfl) (hkA j hj).1) hA
  -- the digits
  have hD1 : ∀ (k : Nat) {w : Cond}, (dgA "DigitOnes" (fun j => 48 + j % 10))[k]? = some w → w.before #[Value.ref b] s = true := fun k w hw => hF _ (okP_in dgA_1 (List.mem_of_getElem? hw))
  have hD2 : ∀ (k : Nat) {w : Cond}, (dgA "DigitTens" (fun j => 48 + j / 10))[k]? = some w → w.before #[Value.ref b] s = true := fun k w hw => hF _ (okP_in dgA_2 (List.mem_of_getElem? hw))
  have hE1 : ∀ j, j < 100 → (Cond.eq (.elem (tmD "DigitOnes") (.int (Int32.ofNat j))) (.int (Int32.ofNat (48 + j % 10)))).before #[Value.ref b] s = true := fun j hj => hF _ (okP_in dgA_1 (List.mem_append_right _ (List.mem_map.mpr ⟨j, List.mem_range.mpr hj, rfl⟩)))
  have hE2 : ∀ j, j < 100 → (Cond.eq (.elem (tmD "DigitTens") (.int (Int32.ofNat j))) (.int (Int32.ofNat (48 + j / 10)))).before #[Value.ref b] s = true := fun j hj => hF _ (okP_in dgA_2 (List.mem_append_right _ (List.mem_map.mpr ⟨j, List.mem_range.mpr hj, rfl⟩)))
  obtain ⟨d1, hd1, hdT1⟩ := va_Tof (tm := tmD "DigitOnes") (ty := .byte) (N := 100) (f := fun j => .int (Int32.ofNat (48 + j % 10))) (A := A) (by decide) (hD1 0 rfl) (va_eqt (hD1 1 rfl)) (fun j hj => va_eqt (hE1 j hj)) hA
  obtain ⟨d2, hd2, hdT2⟩ := va_Tof (tm := tmD "DigitTens") (ty := .byte) (N := 100) (f := fun j => .int (Int32.ofNat (48 + j / 10))) (A := A) (by decide) (hD2 0 rfl) (va_eqt (hD2 1 rfl)) (fun j hj => va_eqt (hE2 j hj)) hA
  have z0 : va_Z "TerraceRain$Tokens" "KEYWORDS" "[LTerraceRain$Keyword;" (.ref kw) A s s.heap := va_Zof (hts _ (List.mem_of_getElem? (i := 918) (by decide +kernel))) (hts _ (List.mem_of_getElem? (i := 32) (by decide +kernel))) hkw hA
  have z1 : va_Z "java/lang/Integer" "DigitOnes" "[B" (.ref d1) A s s.heap := va_Zof (hts _ (List.mem_of_getElem? (i := 1187) (by decide +kernel))) (hts _ (List.mem_of_getElem? (i := 49) (by decide +kernel))) hd1 hA
  have z4 : va_Z "java/lang/Integer" "DigitTens" "[B" (.ref d2) A s s.heap := va_Zof (hts _ (List.mem_of_getElem? (i := 1189) (by decide +kernel))) (hts _ (List.mem_of_getElem? (i := 49) (by decide +kernel))) hd2 hA
  have z2 : va_Z "java/lang/String" "COMPACT_STRINGS" "Z" (.int 1) A s s.heap := va_Zof (hts _ (List.mem_of_getElem? (i := 819) (by decide +kernel))) (hts _ (List.mem_of_getElem? (i := 40) (by decide +kernel))) (va_eqt (hB 2 rfl)) hA
  obtain ⟨sv, hsv, z3⟩ : ∃ sv : Value, isA sv = true ∧ va_Z "jdk/internal/util/Preconditions" "SIOOBE_FORMATTER" "Ljava/util/function/BiFunction;" sv A s s.heap := by
    rcases va_Zqof (A := A) (hts _ (List.mem_of_getElem? (i := 835) (by decide +kernel))) (hts _ (List.mem_of_getElem? (i := 47) (by decide +kernel))) (hB 3 rfl) hA with h | ⟨t, h⟩
    · exact ⟨.null, rfl, h⟩
    · exact ⟨.ref t, rfl, h⟩
  have y1 : vx_Zq Bundle.tN "UNASSIGNED_STACK" Bundle.steD A s s.heap := vxZq_of (hts _ (List.mem_of_getElem? (i := 382) (by decide +kernel))) (hts _ (List.mem_of_getElem? (i := 52) (by decide +kernel))) (hB 4 rfl) hA
  have y2 : vx_Zq Bundle.tN "SUPPRESSED_SENTINEL" Bundle.listD A s s.heap := vxZq_of (hts _ (List.mem_of_getElem? (i := 384) (by decide +kernel))) (hts _ (List.mem_of_getElem? (i := 52) (by decide +kernel))) (hB 5 rfl) hA
  obtain ⟨eA, heA⟩ := pick (α := Nat) (β := Nat × Nat × (Nat → Value)) (fun t q => (q.1 = 0 ∨ q.1 = 2 ∨ q.1 = 5) ∧ q.2.1 < 2 ^ 31 ∧ va_T (tyTag q.1) t q.2.1 q.2.2 A s s.heap)
  obtain ⟨eF, heF⟩ := pick (α := Nat × Nat × Nat) (β := Value) (fun x v => (x.2.1 = 12 ∨ x.2.1 = 20) ∧ va_OF (CFM x.2.1 x.2.2).1 (CFM x.2.1 x.2.2).2.1 (CFM x.2.1 x.2.2).2.2 v x.1 A s s.heap)
  obtain ⟨eO, heO⟩ := pick (α := Nat) (β := Nat) (fun t a => (a = 12 ∨ a = 20) ∧ va_O (CNM a) t A s s.heap)
  have gA : ∀ {tag N t : Nat} {f : Nat → Value}, (tag = 0 ∨ tag = 2 ∨ tag = 5) → N < 2 ^ 31 → va_T (tyTag tag) t N f A s s.heap → ∃ f', eA t = some (tag, N, f') ∧ ∀ j, j < N → f' j = f j := by
    intro tag N t f h1 h2 h3
    obtain ⟨⟨tag', N', f'⟩, hq⟩ := (heA t).2 ⟨(tag, N, f), h1, h2, h3⟩
    obtain ⟨g1, g2, g3⟩ := (heA t).1 _ hq
    obtain ⟨u1, u2, u3⟩ := va_T_uni g3 h3 g2 h2
    have e1 := tag_uni g1 h1 u1
    replace e1 : tag' = tag := e1
    replace u2 : N' = N := u2
    rw [e1, u2] at hq
    exact ⟨f', hq, fun j hj => u3 j (by show j < N'; omega)⟩
  have gF : ∀ {t a k : Nat} {v : Value}, (a = 12 ∨ a = 20) → va_OF (CFM a k).1 (CFM a k).2.1 (CFM a k).2.2 v t A s s.heap → eF (t, a, k) = some v := by
    intro t a k v h1 h2
    obtain ⟨v', hv⟩ := (heF (t, a, k)).2 ⟨v, h1, h2⟩
    rw [hv, va_OF_uni ((heF (t, a, k)).1 _ hv).2 h2]
  have gO : ∀ {t a : Nat}, (a = 12 ∨ a = 20) → va_O (CNM a) t A s s.heap → eO t = some a := by
    intro t a h1 h2
    obtain ⟨a', hv⟩ := (heO t).2 ⟨a, h1, h2⟩
    obtain ⟨g1, g2⟩ := (heO t).1 _ hv
    have e := va_O_nm g2 h2
    rw [hv]
    rcases g1 with rfl | rfl <;> rcases h1 with rfl | rfl <;> first | rfl | exact absurd e (by decide)
  obtain ⟨st, hst0, hst1, hst2, hst3, hst4, hstL, hstz⟩ : ∃ st : Nat → Value, st 0 = .ref kw ∧ st 1 = .ref d1 ∧ st 2 = .int 1 ∧ st 3 = sv ∧ st 4 = .ref d2 ∧ (∀ k, k < 40 → st (100 + k) = .ref (sB k).1) ∧ ∀ k, k < 100 → va_Z (SNM k).1 (SNM k).2.1 (SNM k).2.2 (st k) A s s.heap := by
    refine ⟨fun k => if 100 ≤ k then .ref (sB (k - 100)).1 else match k with
      | 0 => .ref kw
      | 1 => .ref d1
      | 2 => .int 1
      | 4 => .ref d2
      | _ => sv, rfl, rfl, rfl, rfl, rfl, fun k hk => ?_, fun k hk => ?_⟩
    · show (if 100 ≤ 100 + k then Value.ref (sB (100 + k - 100)).1 else _) = _
      rw [if_pos (Nat.le_add_right _ _), Nat.add_sub_cancel_left]
    · show va_Z (SNM k).1 (SNM k).2.1 (SNM k).2.2 (if 100 ≤ k then _ else _) A s s.heap
      rw [if_neg (by omega)]
      match k, hk with
      | 0, _ => exact z0
      | 1, _ => exact z1
      | 2, _ => exact z2
      | 3, _ => exact z3
      | 4, _ => exact z4
      | k + 5, _ => exact z3
  have hSV : ∀ {w : List Nat} {a v : Nat}, w.length < 100 → (∀ c ∈ w, c < 128) → va_O "java/lang/String" a A s s.heap → va_OF "java/lang/String" "coder" "B" (.int 0) a A s s.heap → va_OF "java/lang/String" "value" "[B" (.ref v) a A s s.heap → va_T .byte v w.length (fun j => .int (Int32.ofNat (w.getD j 0))) A s s.heap → eO a = some 12 ∧ eF (a, 12, 1) = some (.int 0) ∧ eF (a, 12, 0) = some (.ref v) ∧ ∃ f, eA v = some (2, w.length, f) ∧ ∀ j c, w[j]? = some c → f j = .int (nI c) := by
    intro w a v hw h128 q2 q3 q4 q5
    obtain ⟨f', hf1, hf2⟩ := gA (tag := 2) (Or.inr (Or.inl rfl)) (by omega) q5
    refine ⟨gO (Or.inl rfl) q2, gF (Or.inl rfl) q3, gF (Or.inl rfl) q4, f', hf1, fun j c hc => ?_⟩
    have hj : j < w.length := (List.getElem?_eq_some_iff.mp hc).1
    rw [hf2 j hj, List.getD_eq_getElem?_getD, hc]
    rfl
  refine ⟨(st, eA, fun t a k => eF (t, a, k), eO), fun k => (sB k).1, ⟨hstz, fun t q hq => ((heA t).1 q hq).2.2, fun t a k v hv => ⟨((heF (t, a, k)).1 v hv).2, ((heF (t, a, k)).1 v hv).1⟩, fun t a hv => ⟨((heO t).1 a hv).2, ((heO t).1 a hv).1⟩, y1, y2⟩, ?_, ?_, ?_, ?_, fun k hk => ⟨hstL k hk, (hsB k hk).1⟩⟩
  · obtain ⟨f1, hf1, hg1⟩ := gA (tag := 2) (Or.inr (Or.inl rfl)) (by decide) hdT1
    obtain ⟨f2, hf2, hg2⟩ := gA (tag := 2) (Or.inr (Or.inl rfl)) (by decide) hdT2
    exact ⟨hst2, by show isA (st 3) = true; rw [hst3]; exact hsv, ⟨d1, f1, hst1, rfl, hf1, fun j hj => hg1 j hj⟩, ⟨d2, f2, hst4, rfl, hf2, fun j hj => hg2 j hj⟩⟩
  · intro k w hw
    obtain ⟨hk, e, h9, h128⟩ := ls_at hw
    obtain ⟨q1, q2, q3, q4, q5⟩ := hsB k hk
    rw [e] at q5
    obtain ⟨g1, g2, g3, f, g4, g5⟩ := hSV h9 h128 q2 q3 q4 q5
    exact ⟨(sB k).1, (sB k).2, hstL k hk, rfl, fun _ => ⟨h128, by omega, Or.inl ⟨rfl, g1, g2, f, g3, rfl, g4, g5⟩⟩⟩
  · obtain ⟨f', hf1, hf2⟩ := gA (tag := 5) (Or.inr (Or.inr rfl)) (by decide) hkT
    refine ⟨kw, f', hst0, rfl, hf1, fun i w t hi => ?_⟩
    obtain ⟨h19, e1, e2, h9, h128⟩ := wl_at hi
    obtain ⟨q1, q2, q3, q4⟩ := hkA i h19
    obtain ⟨p1, p2, p3, p4, p5⟩ := hsA i h19
    rw [e1] at p5
    obtain ⟨g1, g2, g3, f, g4, g5⟩ := hSV h9 h128 p2 p3 p4 p5
    refine ⟨kA i, (sA i).1, hf2 i h19, rfl, gO (Or.inr rfl) q2, gF (Or.inr rfl) q3, ?_, rfl, g1, g2, hst2, by show isA (st 3) = true; rw [hst3]; exact hsv, h9, (sA i).2, f, g3, rfl, g4, fun j hj => ?_⟩
    · rw [← e2]
      exact gF (Or.inr rfl) q4
    · obtain ⟨c, hc⟩ : ∃ c, w[j]? = some c := ⟨w[j], List.getElem?_eq_getElem hj⟩
      exact ⟨c, hc, h128 c (List.mem_of_getElem? hc), g5 j c hc⟩
  · obtain ⟨scr, g1, g2, g3, g4, g5⟩ := hX
    have hT : va_T (tyTag 0) b L (fun j => .int (xs j)) A s s.heap := ⟨scr, g1, g2, g3, by omega, by rw [g4], g5, hA b (Array.getElem?_eq_some_iff.mp g1).1⟩
    obtain ⟨f, h1, h2⟩ := gA (Or.inl rfl) (by omega) hT
    exact ⟨rfl, hL, f, h1, h2⟩
