/-! facts of the tables in a usable form -/
def chkK (a : Nat) : Bool := match vwCl[a]? with
  | none => false
  | some t => (u_ws t.1 t.2.1 t.2.2).all (fun w => decide (w ∈ lw_tb2) && goodWord w) && (List.range t.2.2).all (fun k => decide (parseFieldDescriptor (t.2.1 k).2.2.1 = some (fty a k))) && (List.range t.2.2).all (fun x => (List.range t.2.2).all (fun y => decide (x = y) || decide ((t.2.1 x).2.1 ≠ (t.2.1 y).2.1))) && decide (Cond.instantiable t.1 t.2.2 ∈ lw_tb2) && decide (Cond.initialized t.1 ∈ lw_tb2)
theorem chkK_all : (List.range 13).all chkK = true := by decide +kernel
theorem chkK_at {a : Nat} {t : vw_C} (h : vwCl[a]? = some t) : (u_ws t.1 t.2.1 t.2.2).all (fun w => decide (w ∈ lw_tb2) && goodWord w) = true ∧ (List.range t.2.2).all (fun k => decide (parseFieldDescriptor (t.2.1 k).2.2.1 = some (fty a k))) = true ∧ (List.range t.2.2).all (fun x => (List.range t.2.2).all (fun y => decide (x = y) || decide ((t.2.1 x).2.1 ≠ (t.2.1 y).2.1))) = true ∧ Cond.instantiable t.1 t.2.2 ∈ lw_tb2 ∧ Cond.initialized t.1 ∈ lw_tb2 := by
  have hl : a < 13 := (List.getElem?_eq_some_iff.mp h).1
  have h1 := List.all_eq_true.mp chkK_all a (List.mem_range.mpr hl)
  unfold chkK at h1
  rw [h] at h1
  simp only [Bool.and_eq_true, decide_eq_true_eq] at h1
  exact ⟨h1.1.1.1.1, h1.1.1.1.2, h1.1.1.2, h1.1.2, h1.2⟩
theorem cls_in {a : Nat} {t : vw_C} (h : vwCl[a]? = some t) : ∀ w ∈ u_ws t.1 t.2.1 t.2.2, w ∈ GWL := by
  intro w hw
  have h1 := List.all_eq_true.mp (chkK_at h).1 w hw
  simp only [Bool.and_eq_true, decide_eq_true_eq] at h1
  exact gwl_in h1.1 h1.2
theorem cls_ty {a : Nat} {t : vw_C} (h : vwCl[a]? = some t) : ∀ k, k < t.2.2 → parseFieldDescriptor (t.2.1 k).2.2.1 = some (fty a k) := by
  intro k hk
  have h1 := List.all_eq_true.mp (chkK_at h).2.1 k (List.mem_range.mpr hk)
  simpa using h1
theorem cls_nm {a : Nat} {t : vw_C} (h : vwCl[a]? = some t) : ∀ x, x < t.2.2 → ∀ y, y < t.2.2 → x ≠ y → (t.2.1 x).2.1 ≠ (t.2.1 y).2.1 := by
  intro x hx y hy hne
  have h1 := List.all_eq_true.mp (List.all_eq_true.mp (chkK_at h).2.2.1 x (List.mem_range.mpr hx)) y (List.mem_range.mpr hy)
  simp only [Bool.or_eq_true, decide_eq_true_eq] at h1
  exact h1.resolve_left hne
theorem cls_inst {a : Nat} {t : vw_C} (h : vwCl[a]? = some t) : Cond.instantiable t.1 t.2.2 ∈ GWL := gwl_in (chkK_at h).2.2.2.1 rfl
theorem cls_ini {a : Nat} {t : vw_C} (h : vwCl[a]? = some t) : Cond.initialized t.1 ∈ GWL := gwl_in (chkK_at h).2.2.2.2 rfl
theorem isGW_in {w : Nat} {c : Cond} (h : isGW w c = true) : c ∈ GWL := by
  simp only [isGW, Bool.and_eq_true, decide_eq_true_eq] at h
  exact gwl_of h.1 h.2
theorem isNW_in {w : Nat} {c : Cond} (h : isNW w c = true) : c ∈ NWL := by
  simp only [isNW, Bool.and_eq_true, decide_eq_true_eq] at h
  exact nwl_of h.1 h.2
theorem lookup_mem {β : Type} {k : Nat} {v : β} : ∀ {t : List (Nat × β)}, t.lookup k = some v → (k, v) ∈ t := by
  intro t
  induction t with
  | nil => intro h; cases h
  | cons x r ih =>
    obtain ⟨k', v'⟩ := x
    intro h
    rw [List.lookup_cons] at h
    by_cases e : k = k'
    · subst e
      simp at h
      subst h
      exact List.mem_cons_self
    · have e2 : (k == k') = false := by simpa using e
      rw [e2] at h
      exact List.mem_cons_of_mem _ (ih h)
theorem all_lk {t : List (Nat × MEn)} {f : Nat → MEn → Bool} {pc : Nat} {x : MEn} (h : t.all (fun x => f x.1 x.2) = true) (hc : t.lookup pc = some x) : f pc x = true := List.all_eq_true.mp h (pc, x) (lookup_mem hc)
theorem chkC_of {a i : Nat} {n : Nat} (h : ((List.range n).map (· + a)).all chkC = true) (h1 : a ≤ i) (h2 : i < a + n) : chkC i = true :=
  List.all_eq_true.mp h i (List.mem_map.mpr ⟨i - a, List.mem_range.mpr (by omega), by omega⟩)
theorem chkC_at {i : Nat} (h : i < 257) : chkC i = true := by
  rcases (by omega : i < 20 ∨ (20 ≤ i ∧ i < 40) ∨ (40 ≤ i ∧ i < 60) ∨ (60 ≤ i ∧ i < 80) ∨ (80 ≤ i ∧ i < 100) ∨ (100 ≤ i ∧ i < 120) ∨ (120 ≤ i ∧ i < 140) ∨ (140 ≤ i ∧ i < 160) ∨ (160 ≤ i ∧ i < 180) ∨ (180 ≤ i ∧ i < 200) ∨ (200 ≤ i ∧ i < 220) ∨ (220 ≤ i ∧ i < 240) ∨ 240 ≤ i) with h1 | h1 | h1 | h1 | h1 | h1 | h1 | h1 | h1 | h1 | h1 | h1 | h1
  · exact chkC_of chkC_0 (by omega) (by omega)
  · exact chkC_of chkC_20 (by omega) (by omega)
  · exact chkC_of chkC_40 (by omega) (by omega)
  · exact chkC_of chkC_60 (by omega) (by omega)
  · exact chkC_of chkC_80 (by omega) (by omega)
  · exact chkC_of chkC_100 (by omega) (by omega)
  · exact chkC_of chkC_120 (by omega) (by omega)
  · exact chkC_of chkC_140 (by omega) (by omega)
  · exact chkC_of chkC_160 (by omega) (by omega)
  · exact chkC_of chkC_180 (by omega) (by omega)
  · exact chkC_of chkC_200 (by omega) (by omega)
  · exact chkC_of chkC_220 (by omega) (by omega)
  · exact chkC_of chkC_240 (by omega) (by omega)
theorem chkL_all : kc_257.all (fun x => chkI mr_257 x.1 x.2) = true := by
  unfold kc_257
  simp only [List.all_append, chkL_0, chkL_1, chkL_2, chkL_3, chkL_4, chkL_5, chkL_6, chkL_7, chkL_8, chkL_9, chkL_10, chkL_11, chkL_12, chkL_13, chkL_14, chkL_15, chkL_16, chkL_17, Bool.and_self]
theorem chkC_law : chkC 257 = true := chkL_all
theorem chk_at {i pc : Nat} {q : MRow} {x : MEn} (hq : MT[i]? = some q) (hi : i < 258) (hc : COD i pc = some x) : chkI q pc x = true := by
  have h1 : chkC i = true := by
    rcases Nat.lt_or_ge i 257 with h | h
    · exact chkC_at h
    · rw [show i = 257 by omega]; exact chkC_law
  unfold COD at hc
  unfold chkC at h1
  rw [hq] at h1
  cases hk : KCL[i]? with
  | none => rw [hk] at hc; cases hc
  | some t =>
    rw [hk] at hc h1
    exact all_lk (f := chkI q) h1 hc
theorem chkR_at {q : MRow} (h : q ∈ MT) : chkR q = true := by
  have h0 : ∀ q ∈ MT, chkR q = true := List.forall_mem_append.mpr ⟨fun q h => List.all_eq_true.mp chkR_0 q h, List.forall_mem_append.mpr ⟨fun q h => List.all_eq_true.mp chkR_1 q h, List.forall_mem_append.mpr ⟨fun q h => List.all_eq_true.mp chkR_2 q h, List.forall_mem_append.mpr ⟨fun q h => List.all_eq_true.mp chkR_3 q h, List.forall_mem_append.mpr ⟨fun q h => List.all_eq_true.mp chkR_4 q h, List.forall_mem_append.mpr ⟨fun q h => List.all_eq_true.mp chkR_5 q h, List.forall_mem_append.mpr ⟨fun q h => List.all_eq_true.mp chkR_6 q h, List.forall_mem_append.mpr ⟨fun q h => List.all_eq_true.mp chkR_7 q h, List.forall_mem_append.mpr ⟨fun q h => List.all_eq_true.mp chkR_8 q h, List.forall_mem_append.mpr ⟨fun q h => List.all_eq_true.mp chkR_9 q h, List.forall_mem_append.mpr ⟨fun q h => List.all_eq_true.mp chkR_10 q h, List.forall_mem_append.mpr ⟨fun q h => List.all_eq_true.mp chkR_11 q h, fun q h => List.all_eq_true.mp chkR_12 q h⟩⟩⟩⟩⟩⟩⟩⟩⟩⟩⟩⟩
  exact h0 q h
theorem mt_mem {i : Nat} {q : MRow} (h : MT[i]? = some q) : q ∈ MT := List.mem_of_getElem? h
theorem ldel1_eq (k : Nat) : ∀ L : MLoc, ldel1 k L = L.filter (fun q => !(q.1 == k) && !(q.1 + 1 == k && q.2.category == 2))
  | [] => rfl
  | (j, v) :: r => by
    have ih := ldel1_eq k r
    by_cases h : j = k ∨ (j + 1 = k ∧ v.category = 2)
    · rw [ldel1, if_pos h, ih, List.filter_cons_of_neg]
      simp only [Bool.and_eq_true, Bool.not_eq_true', Bool.and_eq_false_iff, beq_eq_false_iff_ne]
      rintro ⟨h1, h2⟩
      rcases h with h | ⟨h3, h4⟩
      · exact h1 h
      · rcases h2 with h2 | h2
        · exact h2 h3
        · exact h2 h4
    · rw [ldel1, if_neg h, ih, List.filter_cons_of_pos]
      simp only [Bool.and_eq_true, Bool.not_eq_true', Bool.and_eq_false_iff, beq_eq_false_iff_ne]
      refine ⟨fun z => h (Or.inl z), ?_⟩
      by_cases z : j + 1 = k
      · exact Or.inr (fun y => h (Or.inr ⟨z, y⟩))
      · exact Or.inl z
theorem ldel2_eq (k : Nat) : ∀ L : MLoc, ldel2 k L = L.filter (fun q => !(q.1 == k) && (!(q.1 == k + 1) && !(q.1 + 1 == k && q.2.category == 2)))
  | [] => rfl
  | (j, v) :: r => by
    have ih := ldel2_eq k r
    by_cases h : j = k ∨ j = k + 1 ∨ (j + 1 = k ∧ v.category = 2)
    · rw [ldel2, if_pos h, ih, List.filter_cons_of_neg]
      simp only [Bool.and_eq_true, Bool.not_eq_true', Bool.and_eq_false_iff, beq_eq_false_iff_ne]
      rintro ⟨h1, h5, h2⟩
      rcases h with h | h | ⟨h3, h4⟩
      · exact h1 h
      · exact h5 h
      · rcases h2 with h2 | h2
        · exact h2 h3
        · exact h2 h4
    · rw [ldel2, if_neg h, ih, List.filter_cons_of_pos]
      simp only [Bool.and_eq_true, Bool.not_eq_true', Bool.and_eq_false_iff, beq_eq_false_iff_ne]
      refine ⟨fun z => h (Or.inl z), fun z => h (Or.inr (Or.inl z)), ?_⟩
      by_cases z : j + 1 = k
      · exact Or.inr (fun y => h (Or.inr (Or.inr ⟨z, y⟩)))
      · exact Or.inl z
theorem lget_has {la : Array Slot} {nL k : Nat} {L : MLoc} {v : Value} (h : lv_has la nL L) (hk : lget L k = some v) : la[k]? = some (.val v) := by
  have h1 : ∀ L : MLoc, lget L k = some v → (k, v) ∈ L := by
    intro L
    induction L with
    | nil => intro h; cases h
    | cons x r ih =>
      obtain ⟨j, u⟩ := x
      intro h
      rw [lget] at h
      by_cases e : j = k
      · rw [if_pos e] at h
        cases h
        subst e
        exact List.mem_cons_self
      · rw [if_neg e] at h
        exact List.mem_cons_of_mem _ (ih h)
  exact h.2.2 _ (h1 L hk)
theorem tgOf_eq {pc : Nat} {off : Int} (h : 0 ≤ (pc : Int) + off) : (pc : Int) + off = (tgOf pc off : Int) := by unfold tgOf; omega
/-- the cells that nobody writes, at a later heap of the frame -/
theorem env_now {E : MEnv} {τ0 τ : MTau} {s : State} {H : Heap} {locs : List Loc} (hEnv : EOK E (mA τ0 s.heap.size) s s.heap) (hE : mExt τ0 τ s.heap.size) (hS : va_S (mA τ0 s.heap.size) s.heap H locs) : EOK E (mA τ H.size) s H :=
  (hEnv.kept hS.2.1).narrow (hE.sub hS.1)
/-- a start of a callee -/
theorem pc_now {E : MEnv} {D : va_G} {G : Nat → ClassId} {τ0 τ : MTau} {μ : MMu} {s U : State} {H : Heap} {locs : List Loc} {As : List Value} (hK : KOK D G s) (hEnv : EOK E (mA τ0 s.heap.size) s s.heap) (hE : mExt τ0 τ s.heap.size) (hS : va_S (mA τ0 s.heap.size) s.heap H locs) (hM : MRep D G τ μ H) (hU : U.heap = H) (hW : s.WarmedH U.vm) : mPc E D G τ μ H.size As As.toArray U := by
  refine ⟨rfl, by rw [hU], by rw [hU]; exact hM, hK.warm hW, ?_⟩
  rw [hU]
  exact (env_now hEnv hE hS).moved hW.alike
theorem mws_good {q : MRow} (hy : mcw q ∈ GWL) : GoodIn GWL (mws q) := by
  intro w hw
  rcases List.mem_cons.mp hw with h | h
  · subst h
    exact ⟨hy, good_of_word (List.mem_filter.mp hy).2⟩
  · exact ⟨h, good_of_word (List.mem_filter.mp h).2⟩
