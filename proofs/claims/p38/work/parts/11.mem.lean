/-! the heap's instructions: what the small machine says of them holds of the real one -/
theorem mfr_of {E : MEnv} {A : Nat → Prop} {τ : MTau} {s : State} {H : Heap} (hf : τ H.size = none) (hEnv : EOK E A s s.heap) (hz : s.heap.size ≤ H.size) : mfr E τ H.size := by
  have no : ∀ cell : Cell, s.heap[H.size]? = some cell → False := fun cell h => by
    have := (Array.getElem?_eq_some_iff.mp h).1
    omega
  refine ⟨hf, ?_, ?_, fun a b => ?_⟩
  · cases h : E.2.1 H.size with
    | none => rfl
    | some q =>
      obtain ⟨cell, h1, -⟩ := hEnv.2.1 _ q h
      exact (no cell h1).elim
  · cases h : E.2.2.2 H.size with
    | none => rfl
    | some q =>
      obtain ⟨⟨cell, h1, -⟩, -⟩ := hEnv.2.2.2.1 _ q h
      exact (no cell h1).elim
  · cases h : E.2.2.1 H.size a b with
    | none => rfl
    | some q =>
      obtain ⟨⟨_, _, _, _, cell, -, -, h1, -⟩, -⟩ := hEnv.2.2.1 _ a b q h
      exact (no cell h1).elim
theorem arr_now {E : MEnv} {D : va_G} {G : Nat → ClassId} {τ0 τ : MTau} {μ : MMu} {s : State} {H : Heap} {locs : List Loc} (hK : KOK D G s) (hEnv : EOK E (mA τ0 s.heap.size) s s.heap) (hS : va_S (mA τ0 s.heap.size) s.heap H locs) (hM : MRep D G τ μ H) {o t N : Nat} {f : Nat → Value} (h : aget E τ μ o = some (t, N, f)) :
    ∃ cell : Cell, H[o]? = some cell ∧ s.isArrayOf cell (tyTag t) ∧ cell.vm ≠ .unknown ∧ N ≤ cell.slots.size ∧ cell.slots.size.toInt32 = Int32.ofNat N ∧ ∀ j, j < N → cell.slots[j]? = some (f j) := by
  unfold aget at h
  cases ho : τ o with
  | none =>
    rw [ho] at h
    obtain ⟨cell, h1, h2, h3, h4, h5, h6, -⟩ := (hEnv.2.1 o _ h).kept hS.2.1
    exact ⟨cell, h1, h2, h3, h4, h5, h6⟩
  | some x =>
    rw [ho] at h
    cases x with
    | inl z => cases h
    | inr z =>
      obtain ⟨t', N'⟩ := z
      simp only [Option.some.injEq, Prod.mk.injEq] at h
      obtain ⟨rfl, rfl, rfl⟩ := h
      obtain ⟨ht, hc⟩ := hM.arr ho
      obtain ⟨kk, hty⟩ := mGT_at (G := G) ht
      refine ⟨_, hc, (hK.1.2 kk _ hty).1 N' (μ o), fun h => (by cases h), (by rw [arrV_size]; exact Nat.le_refl _), (by rw [arrV_size] <;> rfl), fun j hj => arrV_read _ _ hj⟩
def fldN (a b : Nat) : String × String × String := match vwCl[a]? with
  | some t => ((t.2.1 b).1, (t.2.1 b).2.1, (t.2.1 b).2.2.1)
  | none => CFM a b
theorem fld_now {E : MEnv} {D : va_G} {G : Nat → ClassId} {τ0 τ : MTau} {μ : MMu} {s : State} {args : Array Value} {H : Heap} {locs : List Loc} (hts : ∀ w ∈ GWL, w.before args s = true) (hK : KOK D G s) (hEnv : EOK E (mA τ0 s.heap.size) s s.heap) (hS : va_S (mA τ0 s.heap.size) s.heap H locs) (hM : MRep D G τ μ H) {o a b : Nat} {v : Value} (h : fget E τ μ o a b = some v) (hb : ∀ t, vwCl[a]? = some t → b < t.2.2) :
    ∃ (cf : ClassId) (kf : Class) (fi : Nat) (f : Field) (cell : Cell), s.fieldFound? (fldN a b).1 (fldN a b).2.1 (fldN a b).2.2 = some (cf, kf, fi, f) ∧ f.isStatic = false ∧ H[o]? = some cell ∧ cell.vm ≠ .unknown ∧ cell.slots[f.slot]? = some v := by
  unfold fget at h
  cases ho : τ o with
  | none =>
    rw [ho] at h
    obtain ⟨hOF, h20⟩ := hEnv.2.2.1 o a b v h
    obtain ⟨cf, k, fi, f, cell, h1, h2, h3, h4, h5, -⟩ := hOF.kept hS.2.1
    refine ⟨cf, k, fi, f, cell, ?_, h2, h3, h4, h5⟩
    rcases h20 with rfl | rfl
    · exact h1
    · exact h1
  | some x =>
    rw [ho] at h
    cases x with
    | inr z => cases h
    | inl z =>
      by_cases hz : z = a
      · subst hz
        simp only [if_true] at h
        cases h
        obtain ⟨t, ht, cell, q1, q2, q3, q4⟩ := hM.obj ho
        have hbt := hb t ht
        obtain ⟨hS', hfc, kC, hkC, hkind⟩ := hK.1.1 z t ht
        obtain ⟨cf, kf, fi, f, hi, hsl⟩ := hS' b hbt
        refine ⟨cf, kf, fi, f, cell, ?_, (u_facts hfc hkC (u_lays hts (cls_in ht) hbt) hi).1, q1, (by rw [q3]; intro h9; cases h9), (by rw [hsl]; exact q4 b hbt)⟩
        unfold fldN
        rw [ht]
        exact hi
      · dsimp only at h
        rw [if_neg hz] at h
        cases h
theorem rcv_now {E : MEnv} {D : va_G} {G : Nat → ClassId} {τ0 τ : MTau} {μ : MMu} {s : State} {H : Heap} {locs : List Loc} (hK : KOK D G s) (hEnv : EOK E (mA τ0 s.heap.size) s s.heap) (hS : va_S (mA τ0 s.heap.size) s.heap H locs) (hM : MRep D G τ μ H) {o r : Nat} (h : recv E τ o r) :
    ∃ cell : Cell, H[o]? = some cell ∧ cell.vm.isStatics = false ∧ s.vm.findClass (clN r) = some cell.cls := by
  rcases h with ho | ⟨-, ho⟩
  · obtain ⟨t, ht, cell, q1, q2, q3, -⟩ := hM.obj ho
    refine ⟨cell, q1, by rw [q3]; rfl, ?_⟩
    unfold clN
    rw [ht, q2]
    exact (hK.1.1 r t ht).2.1
  · obtain ⟨hO, h20⟩ := hEnv.2.2.2.1 o r ho
    obtain ⟨cell, h1, h2, h3, -⟩ := hO.kept hS.2.1
    refine ⟨cell, h1, h2, ?_⟩
    rcases h20 with rfl | rfl
    · exact h3
    · exact h3
theorem chkF_of {own : String} {idx w : Nat} {C n d : String} (h : chkF own idx w C n d = true) : Cond.fieldLink own idx C n d ∈ GWL ∨ ∃ hh, Cond.fieldLinkNest own idx C n d hh ∈ NWL := by
  simp only [chkF, Bool.or_eq_true, List.any_eq_true] at h
  rcases h with h | ⟨hh, -, h⟩
  · exact Or.inl (isGW_in h)
  · exact Or.inr ⟨hh, isNW_in h⟩
theorem chkM_of {own : String} {idx w : Nat} {y : MethodName} (h : chkM own idx w y = true) : Cond.methodLink own idx y ∈ GWL ∨ ∃ hh, Cond.methodLinkNest own idx y hh ∈ NWL := by
  simp only [chkM, Bool.or_eq_true, List.any_eq_true] at h
  rcases h with h | ⟨hh, -, h⟩
  · exact Or.inl (isGW_in h)
  · exact Or.inr ⟨hh, isNW_in h⟩
theorem and_tt {a b : Bool} (h : (a && b) = true) : a = true ∧ b = true := Bool.and_eq_true_iff.mp h
theorem chk_dec {q : MRow} {pc l a b w r : Nat} {ins : Instr} (h : chkI q pc (ins, l, a, b, w, r) = true) : decode q.2.1 pc = .ok (ins, l) := of_decide_eq_true (and_tt h).1
theorem len_of {l k : Nat} {b : Bool} (h : ((l == k) && b) = true) : l = k ∧ b = true := ⟨by simpa using (and_tt h).1, (and_tt h).2⟩
set_option maxHeartbeats 4000000 in
theorem sn_get {p : Program} {l : Launch} {e : Env} {R : Room} {s : State} {m : MethodId} {args : Array Value} {below : List Frame} {meth : Method} {cd : Code} {E : MEnv} {D : va_G} {G : Nat → ClassId} {τ0 : MTau} {d C0 S0 : Nat} {q : MRow} {Qf : State → Prop} (F : FX p l R s m args meth cd E D G τ0 d C0 S0 q) {pc : Nat} {ls : MLoc} {τ : MTau} {c n : Nat} {μ : MMu} {idx l9 a b w r : Nat} (hck : chkI q pc (.getfield idx, l9, a, b, w, r) = true) {o : Nat} {v : Value} {rest : List Value} (hv : fget E τ μ o a b = some v) (kk : MWp p l e R s m args below meth cd D G τ0 q.2.2.1 C0 S0 Qf (pc + 3) ls (v :: rest) τ c n μ) : MWp p l e R s m args below meth cd D G τ0 q.2.2.1 C0 S0 Qf pc ls (.ref o :: rest) τ c n μ := by
  intro H locs la k9 j9 hl hM hE hS hc hn
  obtain ⟨hx, hb, hml, hown, hts, hK, hEnv, hRf, hRl, hCc, hSs, hinit, htab, hfl⟩ := F
  have hd := chk_dec hck
  obtain ⟨rfl, hr⟩ := len_of (and_tt hck).2
  have hbt : ∀ t, vwCl[a]? = some t → b < t.2.2 := by
    intro t ht
    rw [ht] at hr
    exact of_decide_eq_true (and_tt hr).1
  have hlk : chkF q.1.cls idx w (fldN a b).1 (fldN a b).2.1 (fldN a b).2.2 = true := by
    unfold fldN
    cases ht : vwCl[a]? with
    | none => rw [ht] at hr; exact hr
    | some t => rw [ht] at hr; exact (and_tt hr).2
  obtain ⟨cf, kf, fi, f, cell, h1, h2, h3, h4, h5⟩ := fld_now hts hK hEnv hS hM hv hbt
  rcases chkF_of hlk with hw | ⟨hh, hw⟩
  · exact W.getf hx hb hown (hts _ hw) h1 h2 h3 h4 h5 rfl rfl hd (kk H locs la k9 j9 hl hM hE hS hc hn)
  · exact va_Wgetf hx hb hown (va_Nw.use rfl (hK.2.1 _ hw)) h1 h2 h3 h4 h5 rfl rfl hd (kk H locs la k9 j9 hl hM hE hS hc hn)
set_option maxHeartbeats 4000000 in
theorem sn_put {p : Program} {l : Launch} {e : Env} {R : Room} {s : State} {m : MethodId} {args : Array Value} {below : List Frame} {meth : Method} {cd : Code} {E : MEnv} {D : va_G} {G : Nat → ClassId} {τ0 : MTau} {d C0 S0 : Nat} {q : MRow} {Qf : State → Prop} (F : FX p l R s m args meth cd E D G τ0 d C0 S0 q) {pc : Nat} {ls : MLoc} {τ : MTau} {c n : Nat} {μ : MMu} {idx l9 a b w r : Nat} (hck : chkI q pc (.putfield idx, l9, a, b, w, r) = true) {o : Nat} {v : Value} {rest : List Value} (ho : τ o = some (.inl a)) (hfit : pfit (fty a b) v) (kk : MWp p l e R s m args below meth cd D G τ0 q.2.2.1 C0 S0 Qf (pc + 3) ls rest τ c n (mset μ o b v)) : MWp p l e R s m args below meth cd D G τ0 q.2.2.1 C0 S0 Qf pc ls (v :: .ref o :: rest) τ c n μ := by
  intro H locs la k9 j9 hl hM hE hS hc hn
  obtain ⟨hx, hb, hml, hown, hts, hK, hEnv, hRf, hRl, hCc, hSs, hinit, htab, hfl⟩ := F
  have hd := chk_dec hck
  obtain ⟨rfl, hr⟩ := len_of (and_tt hck).2
  obtain ⟨t, ht, cell, q1, q2, q3, q4⟩ := hM.obj ho
  rw [ht] at hr
  obtain ⟨h12, hfinc⟩ := and_tt hr
  obtain ⟨hbt, hlk⟩ := and_tt h12
  have hbt := of_decide_eq_true hbt
  have hnm := cls_nm ht
  have hap := va_apart (own := q.1.cls) hts (cls_in ht) (fty a) (cls_ty ht) hnm hK.1 ht
  obtain ⟨hS', hfc, kC, hkC, hkind⟩ := hK.1.1 a t ht
  obtain ⟨cf, kf, fi, f, hi, hsl⟩ := hS' b hbt
  have hst := (u_facts hfc hkC (u_lays hts (cls_in ht) hbt) hi).1
  have hA : mA τ0 s.heap.size o := hE.2 o (by rw [ho]; exact fun h => by cases h)
  have step : ∀ H' : Heap, H'[o]? = some (cell.setSlot f.slot v) → H'.size = H.size → (∀ q, q ≠ o → H'[q]? = H[q]?) → W p l e R s m args below meth cd H' (locs ++ [⟨o, f.slot⟩]) k9 j9 Qf (F0 m (pc + 3) la rest) := by
    intro H' e1 e2 e3
    rw [hsl] at e1
    refine kk H' _ la k9 j9 hl (hM.set ho (fun z hz => by funext k; simp [mset, hz]) e3 ⟨t, ht, ?_⟩) hE (hS.put e2 e3 hA) hc hn
    refine t_OB.to (V := updV (μ o) b v) ⟨_, e1, q2, q3, t_set q4 hap hbt v⟩ (fun j _ => ?_)
    simp only [updV, mset, true_and]
  by_cases hfin : (t.2.1 b).2.2.2 = true
  · rw [hfin] at hfinc
    simp only [Bool.not_true, Bool.false_or] at hfinc
    obtain ⟨h56, hlk2⟩ := and_tt hfinc
    obtain ⟨h5, h6⟩ := and_tt h56
    have hnme : q.1.name = "<init>" := of_decide_eq_true h5
    have hdecl : (t.2.1 b).1 = q.1.cls := of_decide_eq_true h6
    have hlay := hts _ (cls_in ht _ (u_in_lay hbt))
    unfold u_lay at hlay
    rw [if_pos hfin] at hlay
    have hcf : m.cls = cf := by
      obtain ⟨_, _, c', _, _, _, -, -, hf', -, -, -, hown2, -⟩ := Cond.laysFinal_spec hlay
      have e1 : c' = cf := by have := hi.symm.trans hf'; simp at this; exact this.1.symm
      rw [hdecl] at hown2
      rw [← e1]; exact Option.some.inj (hown.symm.trans hown2)
    have h6 := u_fits hfc hkC hkind (Or.inr hlay) hi (cls_ty ht b hbt) hfit.1 hfit.2
    exact W.putFinK hx hb hown (hts _ (isGW_in hlk2)) hi hst hcf (hinit hnme) (by rw [q2]; exact h6) q1 q3 (by rw [hsl]; exact k2_hasslot (q4 b hbt)) rfl rfl hd step
  · have hfin : (t.2.1 b).2.2.2 = false := by simpa using hfin
    have hlay := hts _ (cls_in ht _ (u_in_lay hbt))
    unfold u_lay at hlay
    rw [if_neg (by rw [hfin]; decide)] at hlay
    have h6 := u_store hfc hkC hkind hlay hi (cls_ty ht b hbt) hfit.1 hfit.2
    rcases chkF_of hlk with hw | ⟨hh, hw⟩
    · exact W.putK hx hb (f := f) ⟨hown, hts _ hw, ⟨_, _, _, hi⟩, hst⟩ (by rw [q2]; exact h6) q1 q3 (by rw [hsl]; exact k2_hasslot (q4 b hbt)) rfl rfl hd step
    · exact va_WputK hx hb (f := f) hown (va_Nw.use rfl (hK.2.1 _ hw)) hi hst (by rw [q2]; exact h6) q1 q3 (by rw [hsl]; exact k2_hasslot (q4 b hbt)) rfl rfl hd step
set_option maxHeartbeats 4000000 in
theorem sn_new {p : Program} {l : Launch} {e : Env} {R : Room} {s : State} {m : MethodId} {args : Array Value} {below : List Frame} {meth : Method} {cd : Code} {E : MEnv} {D : va_G} {G : Nat → ClassId} {τ0 : MTau} {d C0 S0 : Nat} {q : MRow} {Qf : State → Prop} (F : FX p l R s m args meth cd E D G τ0 d C0 S0 q) {pc : Nat} {ls : MLoc} {τ : MTau} {c n : Nat} {μ : MMu} {idx l9 a w r : Nat} (hck : chkI q pc (.new idx, l9, a, 0, w, r) = true) {rest : List Value} (h1 : 1 ≤ c) (h2 : fnum a ≤ n) (kk : ∀ o : Nat, mfr E τ o → MWp p l e R s m args below meth cd D G τ0 q.2.2.1 C0 S0 Qf (pc + 3) ls (.ref o :: rest) (tset τ o (.inl a)) (c - 1) (n - fnum a) (mrow μ o (dflt a))) : MWp p l e R s m args below meth cd D G τ0 q.2.2.1 C0 S0 Qf pc ls rest τ c n μ := by
  intro H locs la k9 j9 hl hM hE hS hc hn
  obtain ⟨hx, hb, hml, hown, hts, hK, hEnv, hRf, hRl, hCc, hSs, hinit, htab, hfl⟩ := F
  have hd := chk_dec hck
  obtain ⟨rfl, hr⟩ := len_of (and_tt hck).2
  cases ht : vwCl[a]? with
  | none =>
    rw [ht] at hr
    cases hr
  | some t =>
    rw [ht] at hr
    have hlk := hts _ (isGW_in hr)
    have hKn := hK.1.1 a t ht
    have hfn : fnum a = t.2.2 := by unfold fnum; rw [ht]
    rw [hfn] at h2 kk
    refine W.newcK hx hb hown hlk (hts _ (cls_inst ht)) (hts _ (cls_ini ht)) rfl hd (by omega) (by omega) hKn.2.1 rfl fun H1 kC hkC e1 z1 o1 => ?_
    have hf := hM.fresh
    refine kk H.size (mfr_of hf hEnv hS.1) H1 locs la (k9 + 1) (j9 + t.2.2) hl (hM.new _ _ o1 ⟨t, ht, ?_⟩) (hE.new _ hf hS.1) ⟨Nat.le_trans hS.1 (by omega), fun x h3 h4 => (o1 x (Nat.lt_of_lt_of_le h3 hS.1)).trans (hS.2.1 x h3 h4), hS.2.2⟩ (by omega) (by omega)
    exact u_born (fty a) hts (cls_in ht) hKn hkC e1 (cls_ty ht)
set_option maxHeartbeats 4000000 in
theorem sn_newa {p : Program} {l : Launch} {e : Env} {R : Room} {s : State} {m : MethodId} {args : Array Value} {below : List Frame} {meth : Method} {cd : Code} {E : MEnv} {D : va_G} {G : Nat → ClassId} {τ0 : MTau} {d C0 S0 : Nat} {q : MRow} {Qf : State → Prop} (F : FX p l R s m args meth cd E D G τ0 d C0 S0 q) {pc : Nat} {ls : MLoc} {τ : MTau} {c n : Nat} {μ : MMu} {t9 : ArrayType} {l9 a b w r : Nat} (hck : chkI q pc (.newarray t9, l9, a, b, w, r) = true) {x : Int32} {rest : List Value} (h0 : ¬ x < 0) (h6 : x.toNatClampNeg ≤ 60000) (h1 : 1 ≤ c) (h2 : x.toNatClampNeg ≤ n) (h3 : tagOf t9 ≤ 3) (kk : ∀ o : Nat, mfr E τ o → MWp p l e R s m args below meth cd D G τ0 q.2.2.1 C0 S0 Qf (pc + 2) ls (.ref o :: rest) (tset τ o (.inr (tagOf t9, x.toNatClampNeg))) (c - 1) (n - x.toNatClampNeg) (mrow μ o (fun _ => tag0 (tagOf t9)))) : MWp p l e R s m args below meth cd D G τ0 q.2.2.1 C0 S0 Qf pc ls (.int x :: rest) τ c n μ := by
  intro H locs la k9 j9 hl hM hE hS hc hn
  obtain ⟨hx, hb, hml, hown, hts, hK, hEnv, hRf, hRl, hCc, hSs, hinit, htab, hfl⟩ := F
  have hd := chk_dec hck
  obtain ⟨rfl, hr⟩ := len_of (and_tt hck).2
  obtain ⟨hw, h39⟩ : Cond.arrayClass (newarray.typeOf t9) ∈ GWL ∧ (tagOf t9 = 0 ∨ tagOf t9 = 2) := by
    rcases Bool.or_eq_true_iff.mp hr with h | h
    · exact absurd (of_decide_eq_true h) (by omega)
    · obtain ⟨h, h'⟩ := and_tt h
      exact ⟨gwl_in (of_decide_eq_true h) rfl, by simpa using h'⟩
  have hty : newarray.typeOf t9 = tyTag (tagOf t9) ∧ componentBytes (newarray.typeOf t9) ≤ 8 ∧ defaultValue (newarray.typeOf t9) = tag0 (tagOf t9) := by
    cases t9 <;> first | exact ⟨rfl, by decide, rfl⟩ | exact absurd h3 (by decide)
  have hcr : tagOf t9 ∈ crT := by
    rcases h39 with h3 | h3 <;> rw [h3] <;> decide
  obtain ⟨kG, hG⟩ := mGT_at (G := G) hcr
  have hGc := (hK.1.2 _ _ hG).2
  refine va_newaK hx hb (hts _ hw) rfl hd rfl h0 rfl (Nat.le_trans (Nat.mul_le_mul h6 hty.2.1) (Nat.le_of_ble_eq_true rfl)) (by omega) (by omega) rfl fun H1 cA e1 z1 o1 hAr hNm => ?_
  have hcA : G (tagOf t9) = cA := by
    rw [← hty.1] at hGc
    have h9 : s.vm.findClass ("[" ++ (newarray.typeOf t9).toString) = some (G (tagOf t9)) := by
      cases t9 <;> first | exact hGc | exact absurd h3 (by decide)
    exact Option.some.inj (h9.symm.trans hNm)
  subst hcA
  have hf := hM.fresh
  refine kk H.size (mfr_of hf hEnv hS.1) H1 locs la (k9 + 1) (j9 + x.toNatClampNeg) hl (hM.new _ _ o1 ⟨hcr, ?_⟩) (hE.new _ hf hS.1) ⟨Nat.le_trans hS.1 (by omega), fun x h3 h4 => (o1 x (Nat.lt_of_lt_of_le h3 hS.1)).trans (hS.2.1 x h3 h4), hS.2.2⟩ (by omega) (by omega)
  rw [← hty.2.2]
  exact e1
/-- what a known array of references is over -/
theorem el_now {D : va_G} {G : Nat → ClassId} {s : State} (hK : KOK D G s) {a : Nat} (ha : a ∈ [4, 6, 8]) : (∀ A : Array Value, (Cond.arrayOver (.object (elNm a))).before A s = true) ∧ (∃ kA comp, s.vm.classes[G a]? = some kA ∧ kA.kind = .array comp (.object (elNm a)) ∧ s.vm.findClass (elNm a) = some comp ∧ s.vm.findClass ("[" ++ (FieldType.object (elNm a)).toString) = some (G a)) := by
  simp only [List.mem_cons, List.not_mem_nil, or_false] at ha
  rcases ha with rfl | rfl | rfl
  · exact ⟨fun A => va_AO.use hK.2.2.1.1, (hK.1.2 2 _ rfl).2⟩
  · exact ⟨fun A => va_AO.use hK.2.2.1.2.1, (hK.1.2 3 _ rfl).2⟩
  · exact ⟨fun A => va_AO.use hK.2.2.1.2.2.1, (hK.1.2 5 _ rfl).2⟩
theorem nm_I : (FieldType.array .int).toString = "[I" := by decide +kernel
theorem row_now {D : va_G} {G : Nat → ClassId} {s : State} (hK : KOK D G s) : ∃ kA k0, s.vm.classes[G 7]? = some kA ∧ kA.kind = .array (G 0) (.array .int) ∧ s.vm.classes[G 0]? = some k0 := by
  obtain ⟨comp, c, k, h1, h2, h3, h4, h5⟩ := arrayOverA_spec (t := .int) hK.2.2.1.2.2.2
  have g7 : s.vm.findClass ("[" ++ (FieldType.array .int).toString) = some (G 7) := (hK.1.2 4 _ rfl).2
  have g0 : s.vm.findClass (FieldType.array .int).toString = some (G 0) := by rw [nm_I]; exact va_nm_int (hK.1.2 0 _ rfl).2
  cases h5.symm.trans g7
  cases h1.symm.trans g0
  obtain ⟨k0, hk0, -⟩ := Vm.findClass_spec g0
  exact ⟨k, k0, h3, h4, hk0⟩
set_option maxHeartbeats 4000000 in
theorem sn_anew {p : Program} {l : Launch} {e : Env} {R : Room} {s : State} {m : MethodId} {args : Array Value} {below : List Frame} {meth : Method} {cd : Code} {E : MEnv} {D : va_G} {G : Nat → ClassId} {τ0 : MTau} {d C0 S0 : Nat} {q : MRow} {Qf : State → Prop} (F : FX p l R s m args meth cd E D G τ0 d C0 S0 q) {pc : Nat} {ls : MLoc} {τ : MTau} {c n : Nat} {μ : MMu} {idx l9 a b w r : Nat} (hck : chkI q pc (.anewarray idx, l9, a, b, w, r) = true) {x : Int32} {rest : List Value} (h0 : ¬ x < 0) (h6 : x.toNatClampNeg ≤ 60000) (h1 : 1 ≤ c) (h2 : x.toNatClampNeg ≤ n) (kk : ∀ o : Nat, mfr E τ o → MWp p l e R s m args below meth cd D G τ0 q.2.2.1 C0 S0 Qf (pc + 3) ls (.ref o :: rest) (tset τ o (.inr (a, x.toNatClampNeg))) (c - 1) (n - x.toNatClampNeg) (mrow μ o (fun _ => .null))) : MWp p l e R s m args below meth cd D G τ0 q.2.2.1 C0 S0 Qf pc ls (.int x :: rest) τ c n μ := by
  intro H locs la k9 j9 hl hM hE hS hc hn
  obtain ⟨hx, hb, hml, hown, hts, hK, hEnv, hRf, hRl, hCc, hSs, hinit, htab, hfl⟩ := F
  have hd := chk_dec hck
  obtain ⟨rfl, hr⟩ := len_of (and_tt hck).2
  obtain ⟨hr, hac⟩ := and_tt hr
  have hac := of_decide_eq_true hac
  have hcr : a ∈ crT := by
    simp only [List.mem_cons, List.not_mem_nil, or_false] at hac
    rcases hac with rfl | rfl | rfl | rfl <;> decide
  have fin : ∀ H1 : Heap, H1 = H.push ({ cls := G a, slots := Array.replicate x.toNatClampNeg .null, vm := .none } : Cell) → W p l e R s m args below meth cd H1 locs (k9 + 1) (j9 + x.toNatClampNeg) Qf (F0 m (pc + 3) la (.ref H.size :: rest)) := by
    intro H1 hH1
    have z1 : H1.size = H.size + 1 := by rw [hH1, Array.size_push]
    have e1 : H1[H.size]? = some (arrV (G a) x.toNatClampNeg (fun _ => .null)) := by rw [hH1, Array.getElem?_push_size, ← arrV_new]
    have o1 : ∀ q : Nat, q < H.size → H1[q]? = H[q]? := fun q hq => by rw [hH1, Array.getElem?_push, if_neg (Nat.ne_of_lt hq)]
    have hf := hM.fresh
    exact kk H.size (mfr_of hf hEnv hS.1) H1 locs la (k9 + 1) (j9 + x.toNatClampNeg) hl (hM.new _ _ o1 ⟨hcr, e1⟩) (hE.new _ hf hS.1) ⟨Nat.le_trans hS.1 (by omega), fun x h3 h4 => (o1 x (Nat.lt_of_lt_of_le h3 hS.1)).trans (hS.2.1 x h3 h4), hS.2.2⟩ (by omega) (by omega)
  by_cases h7 : a = 7
  · subst h7
    refine W.anewA (t := .int) hx hb hown (by rw [nm_I]; exact hts _ (isGW_in hr)) (va_AOI.use hK.2.2.1.2.2.2) rfl hd rfl h0 (by omega) (by omega) (by omega) fun cA kA comp f1 f2 f3 f4 => ?_
    have g7 : s.vm.findClass ("[" ++ (FieldType.array .int).toString) = some (G 7) := (hK.1.2 4 _ rfl).2
    cases g7.symm.trans f1
    exact fin _ rfl
  · obtain ⟨g1, -, -, -, -, -, g2⟩ := el_now (a := a) hK (by
      simp only [List.mem_cons, List.not_mem_nil, or_false] at hac ⊢
      omega)
    refine W.anew hx hb hown (hts _ (isGW_in hr)) (g1 args) rfl hd rfl h0 (by omega) (by omega) (by omega) fun cA kA comp f1 f2 f3 f4 => ?_
    cases g2.symm.trans f1
    exact fin _ rfl
theorem vp_in_size {i : Int32} {N : Nat} {cell : Cell} (h : vp_in i N) (hz : N ≤ cell.slots.size) : ¬ (i < 0 ∨ cell.slots.size ≤ i.toNatClampNeg) := fun z => h (z.elim Or.inl (fun y => Or.inr (Nat.le_trans hz y)))
theorem vp_in_lt {i : Int32} {N : Nat} (h : vp_in i N) : i.toNatClampNeg < N := Nat.not_le.mp fun z => h (Or.inr z)
set_option maxHeartbeats 4000000 in
theorem sn_alen {p : Program} {l : Launch} {e : Env} {R : Room} {s : State} {m : MethodId} {args : Array Value} {below : List Frame} {meth : Method} {cd : Code} {E : MEnv} {D : va_G} {G : Nat → ClassId} {τ0 : MTau} {d C0 S0 : Nat} {q : MRow} {Qf : State → Prop} (F : FX p l R s m args meth cd E D G τ0 d C0 S0 q) {pc : Nat} {ls : MLoc} {τ : MTau} {c n : Nat} {μ : MMu} {l9 a b w r : Nat} (hck : chkI q pc (.arraylength, l9, a, b, w, r) = true) {o t N : Nat} {f : Nat → Value} {rest : List Value} (ha : aget E τ μ o = some (t, N, f)) (kk : MWp p l e R s m args below meth cd D G τ0 q.2.2.1 C0 S0 Qf (pc + 1) ls (.int (Int32.ofNat N) :: rest) τ c n μ) : MWp p l e R s m args below meth cd D G τ0 q.2.2.1 C0 S0 Qf pc ls (.ref o :: rest) τ c n μ := by
  intro H locs la k9 j9 hl hM hE hS hc hn
  obtain ⟨hx, hb, hml, hown, hts, hK, hEnv, hRf, hRl, hCc, hSs, hinit, htab, hfl⟩ := F
  have hd := chk_dec hck
  have hr : l9 = 1 := by simpa [lnI] using (and_tt hck).2
  subst hr
  obtain ⟨cell, h1, h2, h3, h4, h5, h6⟩ := arr_now hK hEnv hS hM ha
  exact W.alen hx hb h1 h2 h5 rfl rfl hd (kk H locs la k9 j9 hl hM hE hS hc hn)
set_option maxHeartbeats 4000000 in
theorem sn_iald {p : Program} {l : Launch} {e : Env} {R : Room} {s : State} {m : MethodId} {args : Array Value} {below : List Frame} {meth : Method} {cd : Code} {E : MEnv} {D : va_G} {G : Nat → ClassId} {τ0 : MTau} {d C0 S0 : Nat} {q : MRow} {Qf : State → Prop} (F : FX p l R s m args meth cd E D G τ0 d C0 S0 q) {pc : Nat} {ls : MLoc} {τ : MTau} {c n : Nat} {μ : MMu} {l9 a b w r : Nat} (hck : chkI q pc (.iaload, l9, a, b, w, r) = true) {st : List Value} (h : xald (fun t => t == 0) E (MWp p l e R s m args below meth cd D G τ0 q.2.2.1 C0 S0 Qf) (pc + 1) ls st τ c n μ) : MWp p l e R s m args below meth cd D G τ0 q.2.2.1 C0 S0 Qf pc ls st τ c n μ := by
  intro H locs la k9 j9 hl hM hE hS hc hn
  obtain ⟨hx, hb, hml, hown, hts, hK, hEnv, hRf, hRl, hCc, hSs, hinit, htab, hfl⟩ := F
  have hd := chk_dec hck
  have hr : l9 = 1 := by simpa [lnI] using (and_tt hck).2
  subst hr
  unfold xald at h
  split at h
  · rename_i i o rest
    split at h
    · rename_i t N f ha
      obtain ⟨ht, hin, kk⟩ := h
      obtain ⟨cell, h1, h2, h3, h4, h5, h6⟩ := arr_now hK hEnv hS hM ha
      have kk := kk H locs la k9 j9 hl hM hE hS hc hn
      have ht : t = 0 := by simpa using ht
      subst ht
      exact W.iald hx hb h1 h2 h3 (vp_in_size hin h4) (h6 _ (vp_in_lt hin)) rfl rfl hd kk
    · exact h.elim
  · exact h.elim
set_option maxHeartbeats 4000000 in
theorem sn_lald {p : Program} {l : Launch} {e : Env} {R : Room} {s : State} {m : MethodId} {args : Array Value} {below : List Frame} {meth : Method} {cd : Code} {E : MEnv} {D : va_G} {G : Nat → ClassId} {τ0 : MTau} {d C0 S0 : Nat} {q : MRow} {Qf : State → Prop} (F : FX p l R s m args meth cd E D G τ0 d C0 S0 q) {pc : Nat} {ls : MLoc} {τ : MTau} {c n : Nat} {μ : MMu} {l9 a b w r : Nat} (hck : chkI q pc (.laload, l9, a, b, w, r) = true) {st : List Value} (h : xald (fun t => t == 1) E (MWp p l e R s m args below meth cd D G τ0 q.2.2.1 C0 S0 Qf) (pc + 1) ls st τ c n μ) : MWp p l e R s m args below meth cd D G τ0 q.2.2.1 C0 S0 Qf pc ls st τ c n μ := by
  intro H locs la k9 j9 hl hM hE hS hc hn
  obtain ⟨hx, hb, hml, hown, hts, hK, hEnv, hRf, hRl, hCc, hSs, hinit, htab, hfl⟩ := F
  have hd := chk_dec hck
  have hr : l9 = 1 := by simpa [lnI] using (and_tt hck).2
  subst hr
  unfold xald at h
  split at h
  · rename_i i o rest
    split at h
    · rename_i t N f ha
      obtain ⟨ht, hin, kk⟩ := h
      obtain ⟨cell, h1, h2, h3, h4, h5, h6⟩ := arr_now hK hEnv hS hM ha
      have kk := kk H locs la k9 j9 hl hM hE hS hc hn
      have ht : t = 1 := by simpa using ht
      subst ht
      exact W.lald hx hb h1 h2 h3 (vp_in_size hin h4) (h6 _ (vp_in_lt hin)) rfl rfl hd kk
    · exact h.elim
  · exact h.elim
set_option maxHeartbeats 4000000 in
theorem sn_bald {p : Program} {l : Launch} {e : Env} {R : Room} {s : State} {m : MethodId} {args : Array Value} {below : List Frame} {meth : Method} {cd : Code} {E : MEnv} {D : va_G} {G : Nat → ClassId} {τ0 : MTau} {d C0 S0 : Nat} {q : MRow} {Qf : State → Prop} (F : FX p l R s m args meth cd E D G τ0 d C0 S0 q) {pc : Nat} {ls : MLoc} {τ : MTau} {c n : Nat} {μ : MMu} {l9 a b w r : Nat} (hck : chkI q pc (.baload, l9, a, b, w, r) = true) {st : List Value} (h : xald (fun t => t == 2 || t == 3) E (MWp p l e R s m args below meth cd D G τ0 q.2.2.1 C0 S0 Qf) (pc + 1) ls st τ c n μ) : MWp p l e R s m args below meth cd D G τ0 q.2.2.1 C0 S0 Qf pc ls st τ c n μ := by
  intro H locs la k9 j9 hl hM hE hS hc hn
  obtain ⟨hx, hb, hml, hown, hts, hK, hEnv, hRf, hRl, hCc, hSs, hinit, htab, hfl⟩ := F
  have hd := chk_dec hck
  have hr : l9 = 1 := by simpa [lnI] using (and_tt hck).2
  subst hr
  unfold xald at h
  split at h
  · rename_i i o rest
    split at h
    · rename_i t N f ha
      obtain ⟨ht, hin, kk⟩ := h
      obtain ⟨cell, h1, h2, h3, h4, h5, h6⟩ := arr_now hK hEnv hS hM ha
      have kk := kk H locs la k9 j9 hl hM hE hS hc hn
      have ht : t = 2 ∨ t = 3 := by simpa [or_assoc] using ht
      rcases ht with rfl | rfl
      · exact W.bald hx hb h1 h2 h3 (vp_in_size hin h4) (h6 _ (vp_in_lt hin)) rfl rfl hd kk
      · exact W.zald hx hb h1 h2 h3 (vp_in_size hin h4) (h6 _ (vp_in_lt hin)) rfl rfl hd kk
    · exact h.elim
  · exact h.elim
set_option maxHeartbeats 4000000 in
theorem sn_aald {p : Program} {l : Launch} {e : Env} {R : Room} {s : State} {m : MethodId} {args : Array Value} {below : List Frame} {meth : Method} {cd : Code} {E : MEnv} {D : va_G} {G : Nat → ClassId} {τ0 : MTau} {d C0 S0 : Nat} {q : MRow} {Qf : State → Prop} (F : FX p l R s m args meth cd E D G τ0 d C0 S0 q) {pc : Nat} {ls : MLoc} {τ : MTau} {c n : Nat} {μ : MMu} {l9 a b w r : Nat} (hck : chkI q pc (.aaload, l9, a, b, w, r) = true) {st : List Value} (h : xald (fun t => t == 4 || t == 5 || t == 6 || t == 7 || t == 8) E (MWp p l e R s m args below meth cd D G τ0 q.2.2.1 C0 S0 Qf) (pc + 1) ls st τ c n μ) : MWp p l e R s m args below meth cd D G τ0 q.2.2.1 C0 S0 Qf pc ls st τ c n μ := by
  intro H locs la k9 j9 hl hM hE hS hc hn
  obtain ⟨hx, hb, hml, hown, hts, hK, hEnv, hRf, hRl, hCc, hSs, hinit, htab, hfl⟩ := F
  have hd := chk_dec hck
  have hr : l9 = 1 := by simpa [lnI] using (and_tt hck).2
  subst hr
  unfold xald at h
  split at h
  · rename_i i o rest
    split at h
    · rename_i t N f ha
      obtain ⟨ht, hin, kk⟩ := h
      obtain ⟨cell, h1, h2, h3, h4, h5, h6⟩ := arr_now hK hEnv hS hM ha
      have kk := kk H locs la k9 j9 hl hM hE hS hc hn
      have ht : t = 4 ∨ t = 5 ∨ t = 6 ∨ t = 7 ∨ t = 8 := by simpa [or_assoc] using ht
      rcases ht with rfl | rfl | rfl | rfl | rfl
      · exact W.aald hx hb h1 h2 rfl h3 (vp_in_size hin h4) (h6 _ (vp_in_lt hin)) rfl rfl hd kk
      · exact W.aald hx hb h1 h2 rfl h3 (vp_in_size hin h4) (h6 _ (vp_in_lt hin)) rfl rfl hd kk
      · exact W.aald hx hb h1 h2 rfl h3 (vp_in_size hin h4) (h6 _ (vp_in_lt hin)) rfl rfl hd kk
      · exact W.aald hx hb h1 h2 rfl h3 (vp_in_size hin h4) (h6 _ (vp_in_lt hin)) rfl rfl hd kk
      · exact W.aald hx hb h1 h2 rfl h3 (vp_in_size hin h4) (h6 _ (vp_in_lt hin)) rfl rfl hd kk
    · exact h.elim
  · exact h.elim
set_option maxHeartbeats 4000000 in
theorem sn_iast {p : Program} {l : Launch} {e : Env} {R : Room} {s : State} {m : MethodId} {args : Array Value} {below : List Frame} {meth : Method} {cd : Code} {E : MEnv} {D : va_G} {G : Nat → ClassId} {τ0 : MTau} {d C0 S0 : Nat} {q : MRow} {Qf : State → Prop} (F : FX p l R s m args meth cd E D G τ0 d C0 S0 q) {pc : Nat} {ls : MLoc} {τ : MTau} {c n : Nat} {μ : MMu} {l9 a b w r : Nat} (hck : chkI q pc (.iastore, l9, a, b, w, r) = true) {x : Int32} {i : Int32} {o N : Nat} {rest : List Value} (ho : τ o = some (.inr (0, N))) (hin : vp_in i N) (kk : MWp p l e R s m args below meth cd D G τ0 q.2.2.1 C0 S0 Qf (pc + 1) ls rest τ c n (mset μ o i.toNatClampNeg (.int x))) : MWp p l e R s m args below meth cd D G τ0 q.2.2.1 C0 S0 Qf pc ls (.int x :: .int i :: .ref o :: rest) τ c n μ := by
  intro H locs la k9 j9 hl hM hE hS hc hn
  obtain ⟨hx, hb, hml, hown, hts, hK, hEnv, hRf, hRl, hCc, hSs, hinit, htab, hfl⟩ := F
  have hd := chk_dec hck
  have hr : l9 = 1 := by simpa [lnI] using (and_tt hck).2
  subst hr
  obtain ⟨-, hcell⟩ := hM.arr ho
  have hA : mA τ0 s.heap.size o := hE.2 o (by rw [ho]; exact fun h => by cases h)
  refine W.iast hx hb hcell ((hK.1.2 0 _ rfl).1 N (μ o)) (fun q => by cases q) (by rw [arrV_size]; exact hin) rfl rfl hd fun H1 e z oq => ?_
  refine kk H1 _ la k9 j9 hl (hM.set ho (fun z hz => by funext k; simp [mset, hz]) oq ⟨(by show (0 : Nat) ∈ crT; decide), ?_⟩) hE (hS.put z oq hA) hc hn
  rw [e, arrV_store]
  congr 2
  funext q
  by_cases hq : q = i.toNatClampNeg
  · subst hq
    simp [updV, mset, vp_nar]
    try rfl
  · simp [updV, mset, hq]
set_option maxHeartbeats 4000000 in
theorem sn_bast {p : Program} {l : Launch} {e : Env} {R : Room} {s : State} {m : MethodId} {args : Array Value} {below : List Frame} {meth : Method} {cd : Code} {E : MEnv} {D : va_G} {G : Nat → ClassId} {τ0 : MTau} {d C0 S0 : Nat} {q : MRow} {Qf : State → Prop} (F : FX p l R s m args meth cd E D G τ0 d C0 S0 q) {pc : Nat} {ls : MLoc} {τ : MTau} {c n : Nat} {μ : MMu} {l9 a b w r : Nat} (hck : chkI q pc (.bastore, l9, a, b, w, r) = true) {x : Int32} {i : Int32} {o N : Nat} {rest : List Value} (ho : τ o = some (.inr (2, N))) (hin : vp_in i N) (kk : MWp p l e R s m args below meth cd D G τ0 q.2.2.1 C0 S0 Qf (pc + 1) ls rest τ c n (mset μ o i.toNatClampNeg (.int (vp_nar .byte x)))) : MWp p l e R s m args below meth cd D G τ0 q.2.2.1 C0 S0 Qf pc ls (.int x :: .int i :: .ref o :: rest) τ c n μ := by
  intro H locs la k9 j9 hl hM hE hS hc hn
  obtain ⟨hx, hb, hml, hown, hts, hK, hEnv, hRf, hRl, hCc, hSs, hinit, htab, hfl⟩ := F
  have hd := chk_dec hck
  have hr : l9 = 1 := by simpa [lnI] using (and_tt hck).2
  subst hr
  obtain ⟨-, hcell⟩ := hM.arr ho
  have hA : mA τ0 s.heap.size o := hE.2 o (by rw [ho]; exact fun h => by cases h)
  refine W.bast hx hb hcell ((hK.1.2 1 _ rfl).1 N (μ o)) (fun q => by cases q) (by rw [arrV_size]; exact hin) rfl rfl hd fun H1 e z oq => ?_
  refine kk H1 _ la k9 j9 hl (hM.set ho (fun z hz => by funext k; simp [mset, hz]) oq ⟨(by show (2 : Nat) ∈ crT; decide), ?_⟩) hE (hS.put z oq hA) hc hn
  rw [e, arrV_store]
  congr 2
  funext q
  by_cases hq : q = i.toNatClampNeg
  · subst hq
    simp [updV, mset, vp_nar]
    try rfl
  · simp [updV, mset, hq]
set_option maxHeartbeats 4000000 in
theorem sn_aast {p : Program} {l : Launch} {e : Env} {R : Room} {s : State} {m : MethodId} {args : Array Value} {below : List Frame} {meth : Method} {cd : Code} {E : MEnv} {D : va_G} {G : Nat → ClassId} {τ0 : MTau} {d C0 S0 : Nat} {q : MRow} {Qf : State → Prop} (F : FX p l R s m args meth cd E D G τ0 d C0 S0 q) {pc : Nat} {ls : MLoc} {τ : MTau} {c n : Nat} {μ : MMu} {l9 a b w r : Nat} (hck : chkI q pc (.aastore, l9, a, b, w, r) = true) {x : Nat} {i : Int32} {o N t : Nat} {rest : List Value} (ho : τ o = some (.inr (t, N))) (hin : vp_in i N) (hxo : elOK E τ t x) (kk : MWp p l e R s m args below meth cd D G τ0 q.2.2.1 C0 S0 Qf (pc + 1) ls rest τ c n (mset μ o i.toNatClampNeg (.ref x))) : MWp p l e R s m args below meth cd D G τ0 q.2.2.1 C0 S0 Qf pc ls (.ref x :: .int i :: .ref o :: rest) τ c n μ := by
  intro H locs la k9 j9 hl hM hE hS hc hn
  obtain ⟨hx, hb, hml, hown, hts, hK, hEnv, hRf, hRl, hCc, hSs, hinit, htab, hfl⟩ := F
  have hd := chk_dec hck
  have hr : l9 = 1 := by simpa [lnI] using (and_tt hck).2
  subst hr
  obtain ⟨hcr, hcell⟩ := hM.arr ho
  have hA : mA τ0 s.heap.size o := hE.2 o (by rw [ho]; exact fun h => by cases h)
  have hlt := vp_in_lt hin
  have h0 : ¬ i < 0 := fun q => hin (Or.inl q)
  obtain ⟨k9', comp, ty, kc, cellV, k1, k2, k3, k4, g1, g2, kV, g3, g4⟩ : ∃ (kA : Class) (comp : ClassId) (ty : FieldType) (kc : Class) (cellV : Cell), s.vm.classes[G t]? = some kA ∧ kA.kind = .array comp ty ∧ ty.isReference = true ∧ s.vm.classes[comp]? = some kc ∧ H[x]? = some cellV ∧ (∀ q, cellV.vm ≠ .statics q) ∧ ∃ kV, s.vm.classes[cellV.cls]? = some kV ∧ s.vm.assignable cellV.cls comp = true := by
    have cls : ∀ ci : Nat, ∀ nm : String, (∀ z, vwCl[ci]? = some z → z.1 = nm) → ∀ t' : Nat, elNm t' = nm → t' ∈ [4, 6, 8] → (∃ cell : Cell, H[x]? = some cell ∧ (∀ q, cell.vm ≠ .statics q) ∧ s.vm.findClass nm = some cell.cls ∧ ∃ kV, s.vm.classes[cell.cls]? = some kV ∧ kV.kind = .ordinary) → ∃ (kA : Class) (comp : ClassId) (ty : FieldType) (kc : Class) (cellV : Cell), s.vm.classes[G t']? = some kA ∧ kA.kind = .array comp ty ∧ ty.isReference = true ∧ s.vm.classes[comp]? = some kc ∧ H[x]? = some cellV ∧ (∀ q, cellV.vm ≠ .statics q) ∧ ∃ kV, s.vm.classes[cellV.cls]? = some kV ∧ s.vm.assignable cellV.cls comp = true := by
      intro ci nm _ t' e1 e2 hz9
      obtain ⟨cq, f1, f2, f3, kV, f4, f5⟩ := hz9
      obtain ⟨-, kA, comp, a1, a2, a3, -⟩ := el_now hK e2
      rw [e1] at a3
      cases a3.symm.trans f3
      exact ⟨kA, cq.cls, _, kV, cq, a1, a2, rfl, f4, f1, f2, kV, f4, va_asg _ _⟩
    have obj : ∀ ci nm, τ x = some (.inl ci) → (∃ z, vwCl[ci]? = some z ∧ z.1 = nm) → ∃ cell : Cell, H[x]? = some cell ∧ (∀ q, cell.vm ≠ .statics q) ∧ s.vm.findClass nm = some cell.cls ∧ ∃ kV, s.vm.classes[cell.cls]? = some kV ∧ kV.kind = .ordinary := by
      intro ci nm hx1 hz9
      obtain ⟨z, hz, hnm⟩ := hz9
      obtain ⟨z', hz', cq, q1, q2, q3, -⟩ := hM.obj hx1
      cases hz.symm.trans hz'
      obtain ⟨c1, kC, c2, c3⟩ := (hK.1.1 ci z hz).2
      exact ⟨cq, q1, fun q h => (by rw [q3] at h; cases h), (by rw [← hnm, q2]; exact c1), kC, (by rw [q2]; exact c2), c3⟩
    match t, hxo with
    | 4, hxo => exact cls 0 "TerraceRain$Branch" (fun z hz => by cases hz; rfl) 4 rfl (by decide) (obj 0 _ hxo ⟨_, rfl, rfl⟩)
    | 8, hxo => exact cls 8 "TerraceRainLaw$Order" (fun z hz => by cases hz; rfl) 8 rfl (by decide) (obj 8 _ hxo ⟨_, rfl, rfl⟩)
    | 6, hxo =>
      refine cls 12 "java/lang/String" (fun z hz => by cases hz; rfl) 6 rfl (by decide) ?_
      obtain ⟨cq, r1, r2, r3⟩ := rcv_now hK hEnv hS hM (r := 12) hxo
      obtain ⟨c1, kC, c2, c3⟩ := (hK.1.1 12 _ rfl).2
      rw [Option.some.inj (c1.symm.trans r3)] at c2
      exact ⟨cq, r1, fun q h => (by rw [h] at r2; cases r2), r3, kC, c2, c3⟩
    | 7, hxo =>
      obtain ⟨N', hx1⟩ := hxo
      obtain ⟨-, hc1⟩ := hM.arr hx1
      obtain ⟨kA, k0, a1, a2, a3⟩ := row_now hK
      exact ⟨kA, G 0, _, k0, _, a1, a2, rfl, a3, hc1, fun q h => (by cases h), k0, a3, va_asg _ _⟩
  refine W.aast hx hb hcell (fun q h => by cases h) (fun h => by cases h) k1 k2 k3 k4 ⟨h0, by rw [arrV_size]; exact hlt⟩ g1 g2 g3 g4 rfl rfl hd fun H1 e z oq => ?_
  refine kk H1 _ la k9 j9 hl (hM.set ho (fun z hz => by funext k; simp [mset, hz]) oq ⟨hcr, ?_⟩) hE (hS.put z oq hA) hc hn
  rw [e, arrV_store]
  congr 2
  funext q
  by_cases hq : q = i.toNatClampNeg
  · subst hq
    simp [updV, mset]
  · simp [updV, mset, hq]
/-- names that the later parts use (so that the kit is imported once and for all) -/
theorem zz_nm : True := by
  have _ := @lv_iconst
  have _ := @lv_bipush
  have _ := @lv_sipush
  have _ := @lv_lconst
  have _ := @lv_null
  have _ := @lv_ldc
  have _ := @lv_ldc2
  have _ := @lv_iload_n
  have _ := @lv_iload
  have _ := @lv_lload_n
  have _ := @lv_lload
  have _ := @lv_dload
  have _ := @lv_aload_n
  have _ := @lv_aload
  have _ := @lv_aload_nN
  have _ := @lv_aloadN
  have _ := @lv_istore_n
  have _ := @lv_istore
  have _ := @lv_astore_n
  have _ := @lv_astore
  have _ := @lv_astore_nN
  have _ := @lv_astoreN
  have _ := @lv_lstore_n
  have _ := @lv_lstore
  have _ := @lv_dstore
  have _ := @lv_iinc
  have _ := @lv_iadd
  have _ := @lv_isub
  have _ := @lv_imul
  have _ := @lv_idiv
  have _ := @lv_irem
  have _ := @lv_ineg
  have _ := @lv_iand
  have _ := @lv_ior
  have _ := @lv_ixor
  have _ := @lv_ishr
  have _ := @lv_i2b
  have _ := @lv_i2c
  have _ := @lv_i2l
  have _ := @lv_l2i
  have _ := @lv_l2d
  have _ := @lv_i2d
  have _ := @lv_ladd
  have _ := @lv_lsub
  have _ := @lv_lmul
  have _ := @W.lcmp
  have _ := @lv_ddiv
  have _ := @lv_dcmp
  have _ := @lv_dup
  have _ := @lv_dup2_11
  have _ := @lv_pop
  have _ := @lv_goto
  have _ := @lv_if_eq
  have _ := @lv_if_ne
  have _ := @lv_if_lt
  have _ := @lv_if_ge
  have _ := @lv_if_gt
  have _ := @lv_if_le
  have _ := @lv_icmp_eq
  have _ := @lv_icmp_ne
  have _ := @lv_icmp_lt
  have _ := @lv_icmp_ge
  have _ := @lv_icmp_gt
  have _ := @lv_icmp_le
  have _ := @lv_ifnull
  have _ := @lv_ifnullN
  have _ := @lv_ifnonnull
  have _ := @lv_ifnonnullN
  have _ := @lv_tableIn
  have _ := @lv_tableOut
  have _ := @lv_lookup
  have _ := @va_gets
  have _ := @va_getsN
  have _ := @W.objInit
  have _ := @va_copied
  have _ := @vx_runV
  have _ := @vx_runS
  have _ := @vx_runI
  have _ := @vx_runVN
  have _ := @vx_runSN
  have _ := @vx_runIN
  have _ := @vx_runSX
  have _ := @va_cnB
  have _ := @callB_of
  have _ := @vx_catch
  have _ := @vx_out
  have _ := @vx_throwS
  have _ := @vx_keep
  have _ := @vx_widen
  have _ := @vx_ret
  have _ := @W.widen
  have _ := @W.iret
  have _ := @W.zret
  have _ := @W.lret
  have _ := @W.dret
  have _ := @W.aret
  have _ := @W.vret
  have _ := @lv_entry
  have _ := @lg_entry_eq
  have _ := @W.eq
  have _ := @va_forget
  have _ := @W.base
  have _ := @u_known
  have _ := @va_Zof
  have _ := @vk_Sof
  have _ := @va_Enof
  have _ := @va_Efof
  have _ := @va_copyi
  have _ := @va_T.out
  have _ := @vk_OFof
  have _ := @va_Zref
  have _ := @va_Zqof
  have _ := @vx_Zqof
  have _ := @va_Nc.of
  have _ := @va_AO.of
  have _ := @vk_R.of
  have _ := @va_Nw.of
  have _ := @nI_in
  have _ := @nI_succ
  have _ := @nI_clamp
  have _ := @nI_0
  have _ := @nI_nle
  have _ := @nI_l
  have _ := @nI_1
  have _ := @nI_eq
  have _ := @nI_ltI
  have _ := @nI_leI
  have _ := @nI_of
  have _ := @nI_add
  have _ := @vp_in_nI
  have _ := @nI_toInt
  have _ := @nI_lt
  have _ := @nI_le
  have _ := @nI_ge
  have _ := @nI_nlt
  have _ := @nI_pos
  have _ := @nI_ne0
  have _ := @nI_pred
  have _ := @lN_toInt
  have _ := @lv_at
  have _ := @lv_sub
  have _ := @lw_tbl
  have _ := @dr_words
  trivial
