/-! what the small machine's state says of the real one -/
abbrev mGT (G : Nat → ClassId) : List (ClassId × FieldType) := [(G 0, .int), (G 2, .byte), (G 4, .object "TerraceRain$Branch"), (G 6, .object "java/lang/String"), (G 7, .array .int), (G 8, .object "TerraceRainLaw$Order")]
theorem mGT_at {G : Nat → ClassId} {t : Nat} (h : t ∈ crT) : ∃ k : Nat, (mGT G)[k]? = some (G t, tyTag t) := by
  simp only [crT, List.mem_cons, List.not_mem_nil, or_false] at h
  rcases h with rfl | rfl | rfl | rfl | rfl | rfl
  · exact ⟨0, rfl⟩
  · exact ⟨1, rfl⟩
  · exact ⟨2, rfl⟩
  · exact ⟨3, rfl⟩
  · exact ⟨4, rfl⟩
  · exact ⟨5, rfl⟩
def MCell (D : va_G) (G : Nat → ClassId) (o : Nat) (x : Nat ⊕ (Nat × Nat)) (H : Heap) (f : Nat → Value) : Prop := match x with
  | .inl ci => ∃ q : vw_C, vwCl[ci]? = some q ∧ t_OB o (D.1 ci) q.2.2 (D.2 ci) H f
  | .inr q => q.1 ∈ crT ∧ H[o]? = some (arrV (G q.1) q.2 f)
def MRep (D : va_G) (G : Nat → ClassId) (τ : MTau) (μ : MMu) (H : Heap) : Prop := ∀ (o : Nat) (x : Nat ⊕ (Nat × Nat)), τ o = some x → MCell D G o x H (μ o)
theorem MRep.obj {D : va_G} {G : Nat → ClassId} {τ : MTau} {μ : MMu} {H : Heap} (h : MRep D G τ μ H) {o ci : Nat} (ho : τ o = some (.inl ci)) : ∃ q : vw_C, vwCl[ci]? = some q ∧ t_OB o (D.1 ci) q.2.2 (D.2 ci) H (μ o) := h o _ ho
theorem MRep.arr {D : va_G} {G : Nat → ClassId} {τ : MTau} {μ : MMu} {H : Heap} (h : MRep D G τ μ H) {o t N : Nat} (ho : τ o = some (.inr (t, N))) : t ∈ crT ∧ H[o]? = some (arrV (G t) N (μ o)) := h o _ ho
theorem MRep.lt {D : va_G} {G : Nat → ClassId} {τ : MTau} {μ : MMu} {H : Heap} (h : MRep D G τ μ H) {o : Nat} {x : Nat ⊕ (Nat × Nat)} (ho : τ o = some x) : o < H.size := by
  cases x with
  | inl ci =>
    obtain ⟨q, -, cell, h2, -⟩ := h.obj ho
    exact (Array.getElem?_eq_some_iff.mp h2).1
  | inr q =>
    obtain ⟨t, N⟩ := q
    obtain ⟨-, h2⟩ := h.arr ho
    exact (Array.getElem?_eq_some_iff.mp h2).1
theorem MRep.fresh {D : va_G} {G : Nat → ClassId} {τ : MTau} {μ : MMu} {H : Heap} (h : MRep D G τ μ H) : τ H.size = none := by
  cases hx : τ H.size with
  | none => rfl
  | some x => exact absurd (h.lt hx) (Nat.lt_irrefl _)
theorem MRep.set {D : va_G} {G : Nat → ClassId} {τ : MTau} {μ μ' : MMu} {H H1 : Heap} (h : MRep D G τ μ H) {o : Nat} {x : Nat ⊕ (Nat × Nat)} (ho : τ o = some x) (hμ : ∀ q, q ≠ o → μ' q = μ q) (oq : ∀ q : Nat, q ≠ o → H1[q]? = H[q]?) (hs : MCell D G o x H1 (μ' o)) : MRep D G τ μ' H1 := by
  intro o' x' h'
  by_cases e : o' = o
  · subst e
    cases ho.symm.trans h'
    exact hs
  · cases x' with
    | inl ci =>
      obtain ⟨q, h1, h2⟩ := h.obj h'
      refine ⟨q, h1, ?_⟩
      rw [hμ o' e]
      exact h2.kept (oq o' e)
    | inr q =>
      obtain ⟨t, N⟩ := q
      obtain ⟨h1, h2⟩ := h.arr h'
      refine ⟨h1, ?_⟩
      rw [hμ o' e, oq o' e]
      exact h2
theorem MRep.new {D : va_G} {G : Nat → ClassId} {τ : MTau} {μ : MMu} {H H1 : Heap} (h : MRep D G τ μ H) (x : Nat ⊕ (Nat × Nat)) (f : Nat → Value) (oq : ∀ q : Nat, q < H.size → H1[q]? = H[q]?) (hs : MCell D G H.size x H1 f) : MRep D G (tset τ H.size x) (mrow μ H.size f) H1 := by
  intro o' x' h'
  by_cases e : o' = H.size
  · subst e
    have h9 : x = x' := by simpa [tset] using h'
    subst h9
    have e9 : mrow μ H.size f H.size = f := by funext k; simp [mrow]
    rw [e9]
    exact hs
  · have h9 : τ o' = some x' := by simpa [tset, e] using h'
    have e9 : mrow μ H.size f o' = μ o' := by funext k; simp [mrow, e]
    have hl := h.lt h9
    cases x' with
    | inl ci =>
      obtain ⟨q, h1, h2⟩ := h.obj h9
      refine ⟨q, h1, ?_⟩
      rw [e9]
      exact h2.kept (oq o' hl)
    | inr q =>
      obtain ⟨t, N⟩ := q
      obtain ⟨h1, h2⟩ := h.arr h9
      refine ⟨h1, ?_⟩
      rw [e9, oq o' hl]
      exact h2
/-- what a method may write: its own cells, and new ones -/
def mA (τ : MTau) (sz : Nat) : Nat → Prop := fun q => τ q ≠ none ∨ sz ≤ q
def mExt (τ τ' : MTau) (sz : Nat) : Prop := (∀ o x, τ o = some x → τ' o = some x) ∧ ∀ o, τ' o ≠ none → mA τ sz o
theorem mExt.rfl' {τ : MTau} {sz : Nat} : mExt τ τ sz := ⟨fun _ _ h => h, fun _ h => Or.inl h⟩
theorem mExt.trans {τ τ' τ'' : MTau} {sz sz' : Nat} (h1 : mExt τ τ' sz) (h2 : mExt τ' τ'' sz') (hs : sz ≤ sz') : mExt τ τ'' sz := ⟨fun o x h => h2.1 o x (h1.1 o x h), fun o h => (h2.2 o h).elim (fun z => h1.2 o z) (fun z => Or.inr (Nat.le_trans hs z))⟩
theorem mExt.sub {τ τ' : MTau} {sz sz' : Nat} (h1 : mExt τ τ' sz) (hs : sz ≤ sz') : ∀ q, mA τ' sz' q → mA τ sz q := fun q h => h.elim (fun z => h1.2 q z) (fun z => Or.inr (Nat.le_trans hs z))
theorem mExt.new {τ τ' : MTau} {sz a : Nat} (h1 : mExt τ τ' sz) (x : Nat ⊕ (Nat × Nat)) (hn : τ' a = none) (hs : sz ≤ a) : mExt τ (tset τ' a x) sz := by
  refine ⟨fun o y h => ?_, fun o h => ?_⟩
  · have h2 := h1.1 o y h
    by_cases e : o = a
    · subst e
      rw [hn] at h2
      cases h2
    · simpa [tset, e] using h2
  · by_cases e : o = a
    · subst e
      exact Or.inr hs
    · exact h1.2 o (by simpa [tset, e] using h)
/-- the cells that nobody writes: statics, arrays, objects, strings -/
def EOK (E : MEnv) (A : Nat → Prop) (U : State) (H : Heap) : Prop :=
  (∀ k, k < 100 → va_Z (SNM k).1 (SNM k).2.1 (SNM k).2.2 (E.1 k) A U H) ∧
  (∀ t q, E.2.1 t = some q → va_T (tyTag q.1) t q.2.1 q.2.2 A U H) ∧
  (∀ t a b v, E.2.2.1 t a b = some v → va_OF (CFM a b).1 (CFM a b).2.1 (CFM a b).2.2 v t A U H ∧ (a = 12 ∨ a = 20)) ∧
  (∀ t a, E.2.2.2 t = some a → va_O (CNM a) t A U H ∧ (a = 12 ∨ a = 20)) ∧
  vx_Zq Bundle.tN "UNASSIGNED_STACK" Bundle.steD A U H ∧ vx_Zq Bundle.tN "SUPPRESSED_SENTINEL" Bundle.listD A U H
theorem EOK.moved {E : MEnv} {A : Nat → Prop} {u U : State} {H : Heap} (hvm : u.vm.Alike U.vm) (h : EOK E A u H) : EOK E A U H :=
  ⟨fun k => fun hk => va_Z.moved hvm (h.1 k hk), fun t q z => va_T.moved hvm (h.2.1 t q z), fun t a b v z => ⟨va_OF.moved hvm (h.2.2.1 t a b v z).1, (h.2.2.1 t a b v z).2⟩, fun t a z => ⟨va_O.moved hvm (h.2.2.2.1 t a z).1, (h.2.2.2.1 t a z).2⟩, vx_Zq.moved hvm h.2.2.2.2.1, vx_Zq.moved hvm h.2.2.2.2.2⟩
theorem EOK.kept {E : MEnv} {A : Nat → Prop} {U : State} {H H1 : Heap} (h : EOK E A U H) (hq : ∀ a : Nat, a < H.size → ¬ A a → H1[a]? = H[a]?) : EOK E A U H1 :=
  ⟨fun k => fun hk => va_Z.kept (h.1 k hk) hq, fun t q z => va_T.kept (h.2.1 t q z) hq, fun t a b v z => ⟨va_OF.kept (h.2.2.1 t a b v z).1 hq, (h.2.2.1 t a b v z).2⟩, fun t a z => ⟨va_O.kept (h.2.2.2.1 t a z).1 hq, (h.2.2.2.1 t a z).2⟩, vx_Zq.kept h.2.2.2.2.1 hq, vx_Zq.kept h.2.2.2.2.2 hq⟩
theorem EOK.narrow {E : MEnv} {A B : Nat → Prop} {U : State} {H : Heap} (h : EOK E A U H) (hAB : ∀ q, B q → A q) : EOK E B U H :=
  ⟨fun k => fun hk => va_Z.narrow (h.1 k hk) hAB, fun t q z => va_T.narrow (h.2.1 t q z) hAB, fun t a b v z => ⟨va_OF.narrow (h.2.2.1 t a b v z).1 hAB, (h.2.2.1 t a b v z).2⟩, fun t a z => ⟨va_O.narrow (h.2.2.2.1 t a z).1 hAB, (h.2.2.2.1 t a z).2⟩, vx_Zq.narrow h.2.2.2.2.1 hAB, vx_Zq.narrow h.2.2.2.2.2 hAB⟩
theorem nw_warm {w : Cond} {s U : State} (hk : nwK w = true) (hW : s.WarmedH U.vm) (h : va_Nw w s) : va_Nw w U := by
  cases w <;> first | exact va_Nw.warmF hW h | exact va_Nw.warmM hW h | exact va_Nw.warmC hW h | exact va_Nw.warmD hW h | cases hk
theorem nw_same {w : Cond} {u U : State} (hk : nwK w = true) (hv : u.vm = U.vm) (h : va_Nw w u) : va_Nw w U := by
  cases w <;> first | exact va_Nw.same rfl hv h | cases hk
def sixI (k : Nat) : Nat := match k with
  | 0 => 73
  | 1 => 83
  | 2 => 244
  | 3 => 156
  | 4 => 247
  | _ => 249
def sixT (k : Nat) : String := match k with
  | 0 => "the tape would be too long"
  | 1 => "the tape has not so many bytes"
  | 2 => "there is no such branch"
  | 3 => "no level waits there"
  | 4 => "there are no such terraces"
  | _ => "too small or too great"
/-- the class of the arrays of int rows is known -/
def va_AOI (U : State) : Prop := (Cond.arrayOver (.array .int)).before #[] U = true
theorem va_AOI.use {A : Array Value} {U : State} (h : va_AOI U) : (Cond.arrayOver (.array .int)).before A U = true := h
theorem va_AOI.moved {u U : State} (hvm : u.vm.Alike U.vm) (h : va_AOI u) : va_AOI U := by
  obtain ⟨comp, c, k, h1, h2, h3, h4, h5⟩ := arrayOverA_spec h
  obtain ⟨k', hk', he⟩ := hvm.2.2 _ _ h3
  have hi : (U.vm.classes.findIdx? fun (x : Class) => match x.kind with | .array component _ => component == comp | _ => false) = some c := by
    rw [hvm.findIdx?_eq _ (fun _ => rfl)]
    exact h2
  have hkind : k'.kind = .array comp (.array .int) := by rw [he]; exact h4
  have f1 : U.vm.findClass (FieldType.array .int).toString = some comp := by rw [hvm.findClass]; exact h1
  have f2 : U.vm.findClass ("[" ++ (FieldType.array .int).toString) = some c := by rw [hvm.findClass]; exact h5
  unfold va_AOI Cond.before Cond.holds
  simp only [Cond.value]
  rw [f1, Option.bind_some]
  refine (congrArg (fun o : Option Nat => (o.bind (fun c => (U.vm.classes[c]?).map fun (k : Class) => match k.kind with | .array _ ty => decide (ty = FieldType.array .int) && decide (U.vm.findClass ("[" ++ (FieldType.array .int).toString) = some c) | _ => false) == some true)) hi).trans ?_
  simp [hk', hkind, f2]
/-- the classes of the arrays of references that are made -/
def AOK (U : State) : Prop := va_AO "TerraceRain$Branch" U ∧ va_AO "java/lang/String" U ∧ va_AO "TerraceRainLaw$Order" U ∧ va_AOI U
theorem AOK.moved {u U : State} (hvm : u.vm.Alike U.vm) (h : AOK u) : AOK U := ⟨va_AO.moved hvm h.1, va_AO.moved hvm h.2.1, va_AO.moved hvm h.2.2.1, va_AOI.moved hvm h.2.2.2⟩
def KOK (D : va_G) (G : Nat → ClassId) (U : State) : Prop :=
  va_K D vwCl (mGT G) U ∧ (∀ w ∈ NWL, va_Nw w U) ∧ AOK U ∧ (∀ k, k < 40 → vk_R (LSX k).1 (LSX k).2.1 (LSX k).2.2 (G (100 + k)) U) ∧ (∀ k, k < 6 → ∃ sa, vk_R "TerraceRain" (sixI k) (sixT k) sa U) ∧ True
theorem KOK.warm {D : va_G} {G : Nat → ClassId} {s U : State} (hW : s.WarmedH U.vm) (h : KOK D G s) : KOK D G U :=
  ⟨va_K.moved hW.alike h.1, fun w hw => nw_warm (List.mem_filter.mp hw).2 hW (h.2.1 w hw), AOK.moved hW.alike h.2.2.1, fun k hk => vk_R.warm hW (h.2.2.2.1 k hk), fun k hk => (h.2.2.2.2.1 k hk).elim fun sa z => ⟨sa, vk_R.warm hW z⟩, trivial⟩
theorem KOK.same {D : va_G} {G : Nat → ClassId} {u U : State} (hv : U.vm = u.vm) (h : KOK D G u) : KOK D G U := by
  have ha : u.vm.Alike U.vm := by rw [hv]; exact Vm.Alike.refl _
  exact ⟨va_K.moved ha h.1, fun w hw => nw_same (List.mem_filter.mp hw).2 hv.symm (h.2.1 w hw), AOK.moved ha h.2.2.1, fun k hk => vk_R.same hv (h.2.2.2.1 k hk), fun k hk => (h.2.2.2.2.1 k hk).elim fun sa z => ⟨sa, vk_R.same hv z⟩, trivial⟩
/-- the law's texts stand where the small machine has them -/
def LOK (E : MEnv) (G : Nat → ClassId) : Prop := ∀ k, k < 40 → E.1 (100 + k) = .ref (G (100 + k))
/-- a contract's start and end, in the small machine's words -/
def mPc (E : MEnv) (D : va_G) (G : Nat → ClassId) (τ : MTau) (μ : MMu) (sz : Nat) (As : List Value) : Array Value → State → Prop := va_Pc As (fun U => U.heap.size = sz ∧ MRep D G τ μ U.heap ∧ KOK D G U ∧ EOK E (mA τ sz) U U.heap)
def mQc (D : va_G) (G : Nat → ClassId) (Q : MPost) (τ : MTau) (sz : Nat) : Array Value → State → Outcome → State → Prop := fun _ st o t => (∃ (v : Option Value) (τ' : MTau) (μ' : MMu), o = .returned v ∧ Q (.inl v) τ' μ' ∧ MRep D G τ' μ' t.heap ∧ mExt τ τ' sz) ∧ va_F (mA τ sz) st t
def mXC (D : va_G) (G : Nat → ClassId) (Q : MPost) (τ : MTau) (sz : Nat) : String → State → State → Prop := fun e st t => (∃ (τ' : MTau) (μ' : MMu) (a : Nat), a < 3 ∧ e = excN a ∧ Q (.inr e) τ' μ' ∧ MRep D G τ' μ' t.heap ∧ mExt τ τ' sz) ∧ va_F (mA τ sz) st t
theorem mPc.blind {E : MEnv} {D : va_G} {G : Nat → ClassId} {τ : MTau} {μ : MMu} {sz : Nat} {As : List Value} : FrameBlind (mPc E D G τ μ sz As) := fun a U g mk h => by
  obtain ⟨h1, h2, h3, h4, h5⟩ := h
  exact ⟨h1, h2, h3, KOK.same (u := U) (U := U.calling g mk a) rfl h4, EOK.moved (u := U) (U := U.calling g mk a) (Vm.Alike.refl U.vm) h5⟩
def mrm (d c n : Nat) : Room := { frames := d + 20, cells := c, slots := n, locals := 60 * d + 400 }
def Snd (d : Nat) : Prop := ∀ (i : Nat) (q : MRow), MT[i]? = some q → i < 257 → ∀ (E : MEnv) (As : List Value) (τ : MTau) (c n : Nat) (μ : MMu) (Q : MPost), mwp E d i As τ c n μ Q →
  ∀ (l : Launch) (D : va_G) (G : Nat → ClassId) (sz : Nat), (l.stackTraces = false ∧ LOK E G) → vx_Met l q.1 (mws q) (mrm d c n) (mPc E D G τ μ sz As) (mQc D G Q τ sz) (mXC D G Q τ sz) c n (mA τ sz)
/-- what holds in a method's frame -/
def FX (p : Program) (l : Launch) (R : Room) (s : State) (m : MethodId) (args : Array Value) (meth : Method) (cd : Code) (E : MEnv) (D : va_G) (G : Nat → ClassId) (τ0 : MTau) (d : Nat) (C0 S0 : Nat) (q : MRow) : Prop :=
  p.tables.exec = Jvm.exec ∧ cd.code = q.2.1 ∧ cd.maxLocals = q.2.2.1 ∧ s.vm.findClass q.1.cls = some m.cls ∧ (∀ w ∈ GWL, w.before args s = true) ∧ KOK D G s ∧ EOK E (mA τ0 s.heap.size) s s.heap ∧ d + 20 ≤ R.frames ∧ 60 * d + 400 ≤ R.locals ∧ C0 ≤ R.cells ∧ S0 ≤ R.slots ∧ (q.1.name = "<init>" → meth.name = "<init>") ∧ cd.exceptionTable.toList = tableOf q.2.2.2.2.1 ∧ (l.stackTraces = false ∧ LOK E G)
def MWp (p : Program) (l : Launch) (e : Env) (R : Room) (s : State) (m : MethodId) (args : Array Value) (below : List Frame) (meth : Method) (cd : Code) (D : va_G) (G : Nat → ClassId) (τ0 : MTau) (nL C0 S0 : Nat) (Qf : State → Prop) : MP := fun pc ls st τ c n μ =>
  ∀ (H : Heap) (locs : List Loc) (la : Array Slot) (k j : Nat), lv_has la nL ls → MRep D G τ μ H → mExt τ0 τ s.heap.size → va_S (mA τ0 s.heap.size) s.heap H locs → k + c = C0 → j + n = S0 → W p l e R s m args below meth cd H locs k j Qf (F0 m pc la st)
