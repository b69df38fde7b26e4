def oiP (P : List Value → Prop) (st : List Value) : Prop := match st with
  | .ref _ :: q => q.length ≤ 4 ∧ P q
  | _ => False
def acP (P : List Value → MMu → Prop) (E : MEnv) (τ : MTau) (μ : MMu) (st : List Value) : Prop := match st with
  | .int k :: .int dp :: .ref o1 :: .int sp :: .ref o0 :: q => (match aget E τ μ o0, τ o1 with
    | some (t0, n0, f0), some (.inr (t1, n1)) => t0 = 2 ∧ t1 = 2 ∧ q.length ≤ 4 ∧ ¬ sp < 0 ∧ ¬ dp < 0 ∧ ¬ k < 0 ∧ sp.toNatClampNeg + k.toNatClampNeg ≤ n0 ∧ dp.toNatClampNeg + k.toNatClampNeg ≤ n1 ∧ (∀ j, j < k.toNatClampNeg → fits .byte (f0 (sp.toNatClampNeg + j)) = true) ∧ P q (mrow μ o1 (va_cpy f0 (μ o1) sp.toNatClampNeg dp.toNatClampNeg k.toNatClampNeg))
    | _, _ => False)
  | _ => False
theorem no_999 {E : MEnv} {As : List Value} {τ : MTau} {c n : Nat} {μ : MMu} {Q : MPost} : ∀ d, ¬ mwp E d 999 As τ c n μ Q
  | 0, h => h
  | d + 1, h => (h.2 (fun _ _ _ _ _ _ _ => False) (fun pc ls st τ c n μ hz => by
      have h9 : COD 999 pc = none := rfl
      rw [h9] at hz
      exact hz) (fun _ _ _ _ _ _ _ _ _ z => z)).elim
set_option maxRecDepth 20000 in
theorem acp_room {L d' : Nat} {rest : List Value} (h : 60 * d' + 400 ≤ L) (h4 : rest.length ≤ 4) : 2 * 0 + (rest.map fun v => v.category).sum + (nativeFrameWords "java/lang/System" "arraycopy" 5 + 11) ≤ L := by
  have h1 := cat_sum rest
  have h9 : nativeFrameWords "java/lang/System" "arraycopy" 5 ≤ 100 := by decide +kernel
  omega
theorem obj_in1 : Cond.instanceMethod Lib.objectInit ∈ GWL := gwl_of (k := 64) (by decide +kernel) rfl
theorem obj_in2 : Cond.code Lib.objectInit ⟨#[0xb1]⟩ 1 none ∈ GWL := gwl_of (k := 65) (by decide +kernel) rfl
theorem acp_in1 : Cond.native arraycopyName ∈ GWL := gwl_of (k := 1109) (by decide +kernel) rfl
theorem acp_in2 : Cond.static arraycopyName ∈ GWL := gwl_of (k := 1108) (by decide +kernel) rfl
theorem acp_in3 : Cond.initialized "java/lang/System" ∈ GWL := gwl_of (k := 46) (by decide +kernel) rfl
theorem cln_in1 : Cond.sameMethod "[B" "java/lang/Object" "clone" "()Ljava/lang/Object;" ∈ GWL := gwl_of (k := 1100) (by decide +kernel) rfl
theorem cln_in2 : Cond.native ⟨"java/lang/Object", "clone", "()Ljava/lang/Object;"⟩ ∈ GWL := gwl_of (k := 1101) (by decide +kernel) rfl
theorem cln_in3 : Cond.instanceMethod ⟨"java/lang/Object", "clone", "()Ljava/lang/Object;"⟩ ∈ GWL := gwl_of (k := 1102) (by decide +kernel) rfl
theorem cln_in4 : Cond.selects "[B" ⟨"[B", "clone", "()Ljava/lang/Object;"⟩ ⟨"java/lang/Object", "clone", "()Ljava/lang/Object;"⟩ ∈ GWL := gwl_of (k := 1103) (by decide +kernel) rfl
theorem cln_in5 : Cond.castable "[B" "java/lang/Cloneable" ∈ NWL := nwl_of (k := 1104) (by decide +kernel) rfl
set_option maxHeartbeats 4000000 in
theorem sn_clone {p : Program} {l : Launch} {e : Env} {R : Room} {s : State} {m : MethodId} {args : Array Value} {below : List Frame} {meth : Method} {cd : Code} {E : MEnv} {D : va_G} {G : Nat → ClassId} {τ0 : MTau} {d C0 S0 : Nat} {q : MRow} {Qf : State → Prop} (F : FX p l R s m args meth cd E D G τ0 d C0 S0 q) {pc : Nat} {ls : MLoc} {τ : MTau} {c n : Nat} {μ : MMu} {idx l9 b w r : Nat} (hck : chkI q pc (.invokevirtual idx, l9, 1002, b, w, r) = true) {o N : Nat} {rest : List Value} (ho : τ o = some (.inr (2, N))) (h4 : rest.length ≤ 4) (h1 : 1 ≤ c) (h2 : N ≤ n) (hfit : ∀ j, j < N → fits .byte (μ o j) = true) (kk : ∀ z : Nat, mfr E τ z → MWp p l e R s m args below meth cd D G τ0 q.2.2.1 C0 S0 Qf (pc + 3) ls (.ref z :: rest) (tset τ z (.inr (2, N))) (c - 1) (n - N) (mrow μ z (μ o))) : MWp p l e R s m args below meth cd D G τ0 q.2.2.1 C0 S0 Qf pc ls (.ref o :: rest) τ c n μ := by
  intro H locs la k9 j9 hl hM hE hS hc hn
  obtain ⟨hx, hb, hml, hown, hts, hK, hEnv, hRf, hRl, hCc, hSs, hinit, htab, hfl⟩ := F
  have hd := chk_dec hck
  obtain ⟨rfl, hr⟩ := len_of (and_tt hck).2
  have hlk := hts _ (isGW_in hr)
  obtain ⟨-, hcell⟩ := hM.arr ho
  have hnm : s.vm.findClass "[B" = some (G 2) := va_nm_byte (hK.1.2 1 _ rfl).2
  obtain ⟨-, kS, hkS, compS, hkindS⟩ := (hK.1.2 1 _ rfl).1 0 (fun _ => .null)
  obtain ⟨c0, t0', f1, f2, f3⟩ := Cond.castable_spec (va_Nw.use (A := args) rfl (hK.2.1 _ cln_in5))
  cases hnm.symm.trans f1
  intro T hT X
  have hcellT : T.heap[o]? = some (arrV (G 2) N (μ o)) := by rw [hT]; exact hcell
  obtain ⟨-, kA, hkA, comp, hkind⟩ := State.isArrayOf_alike X.warmed.alike ((hK.1.2 1 _ rfl).1 0 (fun _ => .null))
  obtain ⟨vm', X', st⟩ := X.cloneArray hx hown hlk (hts _ cln_in1) (hts _ cln_in2) (hts _ cln_in3) (hts _ cln_in4) (a := o) (cell := arrV (G 2) N (μ o)) hcellT (fun k h => by cases h) (fun h => by cases h) hnm f2 f3
    (fun i v hv => by
      have hk' : T.vm.classes[G 2]? = some kA := hkA
      simpa [State.fitsSlot, State.slotType?, hk', hkind, arrV] using va_fit hfit i v hv)
    (g := F0 m pc la (.ref o :: rest)) rfl (by rw [hml]; exact hl.1) rfl (by rw [hb]; exact hd) (by omega) (by have := cat_sum rest; show 2 * 0 + _ + 14 ≤ _; omega) (by omega) (by rw [arrV_size]; omega) (hloader := Vm.clonesLoader_of_array hkS hkindS)
  have hcE : ({ cls := (arrV (G 2) N (μ o)).cls, slots := (arrV (G 2) N (μ o)).slots } : Cell) = arrV (G 2) N (μ o) := rfl
  rw [hcE, arrV_size] at X'
  generalize hH1 : H.push (arrV (G 2) N (μ o)) = H1
  have z1 : H1.size = H.size + 1 := by rw [← hH1, Array.size_push]
  have e1 : H1[H.size]? = some (arrV (G 2) N (μ o)) := by rw [← hH1, Array.getElem?_push_size]
  have o1 : ∀ q : Nat, q < H.size → H1[q]? = H[q]? := fun q hq => by rw [← hH1, Array.getElem?_push, if_neg (Nat.ne_of_lt hq)]
  have hf := hM.fresh
  obtain ⟨t, b1, b2⟩ := kk H.size (mfr_of hf hEnv hS.1) H1 locs la (k9 + 1) (j9 + N) hl (hM.new _ _ o1 ⟨(by show (2 : Nat) ∈ crT; decide), e1⟩) (hE.new _ hf hS.1) ⟨Nat.le_trans hS.1 (by omega), fun x h3 h4 => (o1 x (Nat.lt_of_lt_of_le h3 hS.1)).trans (hS.2.1 x h3 h4), hS.2.2⟩ (by omega) (by omega)
    ((T.setVm vm').pushCell (arrV (G 2) N (μ o))) (by rw [← hH1, ← hT]; rfl) X'
  refine ⟨t, st t ?_, b2⟩
  rw [hcE, hT]
  exact b1
def cvP (P : Nat → Nat → Nat → List Value → Prop) (E : MEnv) (τ : MTau) (c n : Nat) (μ : MMu) (st : List Value) : Prop := match st with
  | .ref o :: q => (match τ o with
    | some (.inr (2, N)) => q.length ≤ 4 ∧ 1 ≤ c ∧ N ≤ n ∧ (∀ j, j < N → fits .byte (μ o j) = true) ∧ ∀ z : Nat, mfr E τ z → P z o N q
    | _ => False)
  | _ => False
set_option maxHeartbeats 4000000 in
theorem sn_ivirt {p : Program} {l : Launch} {e : Env} {R : Room} {s : State} {m : MethodId} {args : Array Value} {below : List Frame} {meth : Method} {cd : Code} {E : MEnv} {D : va_G} {G : Nat → ClassId} {τ0 : MTau} {d C0 S0 : Nat} {q : MRow} {Qf : State → Prop} (F : FX p l R s m args meth cd E D G τ0 d C0 S0 q) {d' : Nat} (hd' : d = d' + 1) (hSnd : Snd d') {i : Nat} (hq : MT[i]? = some q) {Qm : MPost} (HX : HXp p l e R s m args below meth cd D G τ0 C0 S0 q Qm Qf) {pc : Nat} {ls : MLoc} {τ : MTau} {c n : Nat} {μ : MMu} {st : List Value} {idx l9 a b w r : Nat} (hck : chkI q pc (.invokevirtual idx, l9, a, b, w, r) = true) (h : exI E (mwp E d') Qm i (MWp p l e R s m args below meth cd D G τ0 q.2.2.1 C0 S0 Qf) pc ls st τ c n μ (some (.invokevirtual idx, l9, a, b, w, r))) : MWp p l e R s m args below meth cd D G τ0 q.2.2.1 C0 S0 Qf pc ls st τ c n μ := by
  have hd := chk_dec hck
  have hck0 := hck
  obtain ⟨rfl, hr⟩ := len_of (and_tt hck).2
  by_cases ha0 : a = 1002
  · subst ha0
    have h8 : cvP (fun z o N q9 => MWp p l e R s m args below meth cd D G τ0 q.2.2.1 C0 S0 Qf (pc + 3) ls (.ref z :: q9) (tset τ z (.inr (2, N))) (c - 1) (n - N) (mrow μ z (μ o))) E τ c n μ st := h
    unfold cvP at h8
    split at h8
    · split at h8
      · rename_i ho9
        exact sn_clone F hck0 ho9 h8.1 h8.2.1 h8.2.2.1 h8.2.2.2.1 h8.2.2.2.2
      · exact h8.elim
    · exact h8.elim
  have hne : (a == 1002) = false := by simpa using ha0
  rw [e_invV hne] at h
  split at h
  · rename_i As o rest hpop
    obtain ⟨hrc, h4, c1, n1, c2, n2, rfl, rfl, hw⟩ := h
    obtain ⟨hlen, hst⟩ := popN_nil hpop
    subst hst
    intro H locs la k9 j9 hl hM hE hS hc hn
    split at hr
    · exact absurd hw (no_999 d')
    · exact absurd rfl ha0
    · split at hr
      · rename_i y hy
        simp only [Bool.and_eq_true, decide_eq_true_eq, beq_iff_eq] at hr
        obtain ⟨⟨g1, g3⟩, g4⟩ := hr
        by_cases h7 : y.2.2.2.2.2.2.1 = 7
        · rw [if_pos h7] at g1
          simp only [Bool.and_eq_true, beq_iff_eq] at g1
          obtain ⟨g1, rfl⟩ := g1
          exact snd_back F hq HX (run_U (Qf := Qf) F hd' hSnd hy g4 h7 hw (by rw [hlen, g3]) hrc (isGW_in g1) hd hl hM hE hS (by omega) (by omega) h4) hl hE hS hc hn
        · rw [if_neg h7] at g1
          simp only [Bool.and_eq_true, Bool.or_eq_true, decide_eq_true_eq, beq_iff_eq] at g1
          obtain ⟨g1, g2⟩ := g1
          exact snd_back F hq HX (run_V (Qf := Qf) F hd' hSnd hy g4 g2 hw (by rw [hlen, g3]) hrc (chkM_of g1) hd hl hM hE hS (by omega) (by omega) h4) hl hE hS hc hn
      · cases hr
  · exact h.elim
set_option maxHeartbeats 4000000 in
set_option maxRecDepth 20000 in
theorem sn_ispec {p : Program} {l : Launch} {e : Env} {R : Room} {s : State} {m : MethodId} {args : Array Value} {below : List Frame} {meth : Method} {cd : Code} {E : MEnv} {D : va_G} {G : Nat → ClassId} {τ0 : MTau} {d C0 S0 : Nat} {q : MRow} {Qf : State → Prop} (F : FX p l R s m args meth cd E D G τ0 d C0 S0 q) {d' : Nat} (hd' : d = d' + 1) (hSnd : Snd d') {i : Nat} (hq : MT[i]? = some q) {Qm : MPost} (HX : HXp p l e R s m args below meth cd D G τ0 C0 S0 q Qm Qf) {pc : Nat} {ls : MLoc} {τ : MTau} {c n : Nat} {μ : MMu} {st : List Value} {idx l9 a b w r : Nat} (hck : chkI q pc (.invokespecial idx, l9, a, b, w, r) = true) (h : exI E (mwp E d') Qm i (MWp p l e R s m args below meth cd D G τ0 q.2.2.1 C0 S0 Qf) pc ls st τ c n μ (some (.invokespecial idx, l9, a, b, w, r))) : MWp p l e R s m args below meth cd D G τ0 q.2.2.1 C0 S0 Qf pc ls st τ c n μ := by
  have hd := chk_dec hck
  obtain ⟨rfl, hr⟩ := len_of (and_tt hck).2
  by_cases ha0 : a = 1000
  · subst ha0
    have h8 : oiP (fun q9 => MWp p l e R s m args below meth cd D G τ0 q.2.2.1 C0 S0 Qf (pc + 3) ls q9 τ c n μ) st := h
    clear h
    have h := h8
    clear h8
    unfold oiP at h
    split at h
    · rename_i o rest
      obtain ⟨h4, h⟩ := h
      intro H locs la k9 j9 hl hM hE hS hc hn
      obtain ⟨hx, hb, hml, hown, hts, hK, hEnv, hRf, hRl, hCc, hSs, hinit, htab, hfl⟩ := F
      refine W.objInit hx hb hown (hts _ (isGW_in hr)) (hts _ obj_in1) (hts _ obj_in2) rfl (by rw [hml]; exact hl.1) rfl hd (by omega) (by have := cat_sum rest; rw [show (F0 m pc la (.ref o :: rest)).monitorRoom = 0 from rfl]; omega) ?_
      exact h H locs la k9 j9 hl hM hE hS hc hn
    · exact h.elim
  · have hne : (a == 1000) = false := by simpa using ha0
    rw [e_invI hne] at h
    split at h
    · rename_i As o rest hpop
      obtain ⟨hrc, h4, c1, n1, c2, n2, rfl, rfl, hw⟩ := h
      obtain ⟨hlen, hst⟩ := popN_nil hpop
      subst hst
      intro H locs la k9 j9 hl hM hE hS hc hn
      split at hr
      · exact absurd hw (no_999 d')
      · exact absurd rfl ha0
      · split at hr
        · rename_i y hy
          simp only [Bool.and_eq_true, Bool.or_eq_true, decide_eq_true_eq, beq_iff_eq] at hr
          obtain ⟨⟨⟨g1, g2⟩, g3⟩, g4⟩ := hr
          rcases g2 with g2 | ⟨⟨⟨g2, rfl⟩, g5⟩, g6⟩
          · exact snd_back F hq HX (run_I (Qf := Qf) F hd' hSnd hy g4 g2 hw (by rw [hlen, g3]) (chkM_of g1) hd hl hM hE hS (by omega) (by omega) h4) hl hE hS hc hn
          · exact snd_back F hq HX (run_X (Qf := Qf) F hd' hSnd hy g4 g2 g6 hw (by rw [hlen, g3]) hrc (isGW_in g5) hd hl hM hE hS (by omega) (by omega) h4) hl hE hS hc hn
        · cases hr
    · exact h.elim
set_option maxHeartbeats 8000000 in
set_option maxRecDepth 20000 in
theorem sn_acopy {p : Program} {l : Launch} {e : Env} {R : Room} {s : State} {m : MethodId} {args : Array Value} {below : List Frame} {meth : Method} {cd : Code} {E : MEnv} {D : va_G} {G : Nat → ClassId} {τ0 : MTau} {d C0 S0 : Nat} {q : MRow} {Qf : State → Prop} (F : FX p l R s m args meth cd E D G τ0 d C0 S0 q) {pc : Nat} {ls : MLoc} {τ : MTau} {c n : Nat} {μ : MMu} {idx l9 b w r : Nat} (hck : chkI q pc (.invokestatic idx, l9, 1001, b, w, r) = true) {x dp sp : Int32} {o0 o1 n0 n1 : Nat} {f0 : Nat → Value} {rest : List Value} (ho0 : aget E τ μ o0 = some (2, n0, f0)) (ho1 : τ o1 = some (.inr (2, n1))) (h4 : rest.length ≤ 4) (h1 : ¬ sp < 0) (h2 : ¬ dp < 0) (h3 : ¬ x < 0) (h5 : sp.toNatClampNeg + x.toNatClampNeg ≤ n0) (h6 : dp.toNatClampNeg + x.toNatClampNeg ≤ n1) (hfit : ∀ j, j < x.toNatClampNeg → fits .byte (f0 (sp.toNatClampNeg + j)) = true) (kk : MWp p l e R s m args below meth cd D G τ0 q.2.2.1 C0 S0 Qf (pc + 3) ls rest τ c n (mrow μ o1 (va_cpy f0 (μ o1) sp.toNatClampNeg dp.toNatClampNeg x.toNatClampNeg))) : MWp p l e R s m args below meth cd D G τ0 q.2.2.1 C0 S0 Qf pc ls (.int x :: .int dp :: .ref o1 :: .int sp :: .ref o0 :: rest) τ c n μ := by
  intro H locs la k9 j9 hl hM hE hS hc hn
  obtain ⟨hx, hb, hml, hown, hts, hK, hEnv, hRf, hRl, hCc, hSs, hinit, htab, hfl⟩ := F
  have hd := chk_dec hck
  obtain ⟨rfl, hr⟩ := len_of (and_tt hck).2
  have hlk := hts _ (isGW_in hr)
  obtain ⟨cs, a1, a2, a3, a4, a5, a6⟩ := arr_now hK hEnv hS hM ho0
  obtain ⟨-, hc1⟩ := hM.arr ho1
  have hA : mA τ0 s.heap.size o1 := hE.2 o1 (by rw [ho1]; exact fun h => by cases h)
  obtain ⟨hs6, k0, hk0, cm0, hkk0⟩ := a2
  obtain ⟨-, k1, hk1, cm1, hkk1⟩ := (hK.1.2 1 _ rfl).1 n1 (μ o1)
  have nn : ∀ z : Int32, ¬ z < 0 → z.toInt = (z.toNatClampNeg : Int) := by
    intro z hz
    have hz0 : (0 : Int) ≤ z.toInt := by
      have := Int32.not_lt.mp hz
      simpa using Int32.le_iff_toInt_le.mp this
    show z.toInt = ((z.toInt.toNat : Nat) : Int)
    omega
  intro T hT X
  obtain ⟨vm', X', step⟩ := X.arraycopy hx hown hlk (hts _ acp_in1) (hts _ acp_in2) (hts _ acp_in3) (src := o0) (dst := o1) (cs := cs) (cd := arrV (G 2) n1 (μ o1)) (srcPos := sp) (destPos := dp) (n := x) (by rw [hT]; exact a1) (by rw [hT]; exact hc1)
    hs6 (fun _ h => by cases h) a3 (fun h => by cases h) hk0 hk1 hkk0 hkk1 (by show (refKind FieldType.byte != refKind FieldType.byte || (!refKind FieldType.byte && FieldType.byte != FieldType.byte)) = false; decide) h1 h2 h3
    (by rw [nn sp h1, nn x h3]; omega)
    (by rw [nn dp h2, nn x h3, arrV_size]; omega)
    (fun vm₁ _ i hi => by
      have e : cs.slots.getD (sp.toNatClampNeg + i) .null = f0 (sp.toNatClampNeg + i) := by
        rw [Array.getD_eq_getD_getElem?, a6 _ (by omega)]
        rfl
      refine ⟨?_, ?_⟩
      · rw [e]
        exact hfit i hi
      · rw [e]
        have h9 := hfit i hi
        cases hv : f0 (sp.toNatClampNeg + i) with
        | ref z =>
          rw [hv] at h9
          exact Bool.noConfusion (show false = true from h9)
        | _ => exact trivial)
    (g := F0 m pc la (.int x :: .int dp :: .ref o1 :: .int sp :: .ref o0 :: rest)) rfl (by rw [hml]; exact hl.1) (rest := rest) rfl (by rw [hb]; exact hd) (by omega) (by rw [show (F0 m pc la (.int x :: .int dp :: .ref o1 :: .int sp :: .ref o0 :: rest)).monitorRoom = 0 from rfl]; exact acp_room hRl h4)
  have e1 : copied cs (arrV (G 2) n1 (μ o1)) sp dp x = arrV (G 2) n1 (va_cpy f0 (μ o1) sp.toNatClampNeg dp.toNatClampNeg x.toNatClampNeg) := va_copiedX (fun z => z) cs (G 2) f0 (μ o1) a6 h5
  rw [e1] at X' step
  have hlt : o1 < H.size := (Array.getElem?_eq_some_iff.mp hc1).1
  have hheap : ((T.setVm vm').setCell o1 (arrV (G 2) n1 (va_cpy f0 (μ o1) sp.toNatClampNeg dp.toNatClampNeg x.toNatClampNeg))).heap = H.setIfInBounds o1 (arrV (G 2) n1 (va_cpy f0 (μ o1) sp.toNatClampNeg dp.toNatClampNeg x.toNatClampNeg)) := by rw [← hT]; rfl
  have oq : ∀ q : Nat, q ≠ o1 → (H.setIfInBounds o1 (arrV (G 2) n1 (va_cpy f0 (μ o1) sp.toNatClampNeg dp.toNatClampNeg x.toNatClampNeg)))[q]? = H[q]? := fun q hq => by simp [Array.getElem?_setIfInBounds, Ne.symm hq]
  have hM2 : MRep D G τ (mrow μ o1 (va_cpy f0 (μ o1) sp.toNatClampNeg dp.toNatClampNeg x.toNatClampNeg)) (H.setIfInBounds o1 (arrV (G 2) n1 (va_cpy f0 (μ o1) sp.toNatClampNeg dp.toNatClampNeg x.toNatClampNeg))) := by
    refine hM.set ho1 (fun z hz => by funext k; simp [mrow, hz]) oq ⟨(by show (2 : Nat) ∈ crT; decide), ?_⟩
    have e9 : mrow μ o1 (va_cpy f0 (μ o1) sp.toNatClampNeg dp.toNatClampNeg x.toNatClampNeg) o1 = va_cpy f0 (μ o1) sp.toNatClampNeg dp.toNatClampNeg x.toNatClampNeg := by funext k; simp [mrow]
    rw [e9]
    simp [Array.getElem?_setIfInBounds, hlt]
  obtain ⟨t, a1, b1⟩ := kk _ _ la k9 j9 hl hM2 hE ⟨by simp; exact hS.1, fun q g1 g2 => by
      rw [oq q (fun e => g2 (by rw [e]; exact hA))]
      exact hS.2.1 q g1 g2, fun q hq => by
      rcases List.mem_append.mp hq with h | h
      · exact hS.2.2 q h
      · obtain ⟨z, -, hz⟩ := List.mem_map.mp h
        rw [← hz]
        exact hA⟩ hc hn _ hheap X'
  exact ⟨t, step t a1, b1⟩
set_option maxHeartbeats 4000000 in
theorem sn_istat {p : Program} {l : Launch} {e : Env} {R : Room} {s : State} {m : MethodId} {args : Array Value} {below : List Frame} {meth : Method} {cd : Code} {E : MEnv} {D : va_G} {G : Nat → ClassId} {τ0 : MTau} {d C0 S0 : Nat} {q : MRow} {Qf : State → Prop} (F : FX p l R s m args meth cd E D G τ0 d C0 S0 q) {d' : Nat} (hd' : d = d' + 1) (hSnd : Snd d') {i : Nat} (hq : MT[i]? = some q) {Qm : MPost} (HX : HXp p l e R s m args below meth cd D G τ0 C0 S0 q Qm Qf) {pc : Nat} {ls : MLoc} {τ : MTau} {c n : Nat} {μ : MMu} {st : List Value} {idx l9 a b w r : Nat} (hck : chkI q pc (.invokestatic idx, l9, a, b, w, r) = true) (h : exI E (mwp E d') Qm i (MWp p l e R s m args below meth cd D G τ0 q.2.2.1 C0 S0 Qf) pc ls st τ c n μ (some (.invokestatic idx, l9, a, b, w, r))) : MWp p l e R s m args below meth cd D G τ0 q.2.2.1 C0 S0 Qf pc ls st τ c n μ := by
  have hd := chk_dec hck
  have hck0 := hck
  obtain ⟨rfl, hr⟩ := len_of (and_tt hck).2
  by_cases ha0 : a = 1001
  · subst ha0
    have h8 : acP (fun q9 μ9 => MWp p l e R s m args below meth cd D G τ0 q.2.2.1 C0 S0 Qf (pc + 3) ls q9 τ c n μ9) E τ μ st := h
    clear h
    have h := h8
    clear h8
    unfold acP at h
    split at h
    · rename_i k dp o1 sp o0 q9
      cases e0 : aget E τ μ o0 with
      | none => rw [e0] at h; exact h.elim
      | some z0 =>
        obtain ⟨t0, n0, f0⟩ := z0
        cases e1 : τ o1 with
        | none => rw [e0, e1] at h; exact h.elim
        | some x1 =>
          cases x1 with
          | inl z1 => rw [e0, e1] at h; exact h.elim
          | inr z1 =>
            rw [e0, e1] at h
            obtain ⟨t1, n1⟩ := z1
            obtain ⟨rfl, rfl, g2, g3, g4, g5, g6, g7, g8, g9⟩ := h
            exact sn_acopy F hck0 e0 e1 g2 g3 g4 g5 g6 g7 g8 g9
    · exact h.elim
  · have hne : (a == 1001) = false := by simpa using ha0
    rw [e_invS hne] at h
    split at h
    · rename_i As rest hpop
      obtain ⟨h4, c1, n1, c2, n2, rfl, rfl, hw⟩ := h
      obtain ⟨hlen, hst⟩ := popN_nil hpop
      subst hst
      intro H locs la k9 j9 hl hM hE hS hc hn
      split at hr
      · exact absurd rfl ha0
      · exact absurd hw (no_999 d')
      · split at hr
        · rename_i y hy
          simp only [Bool.and_eq_true, Bool.or_eq_true, decide_eq_true_eq, beq_iff_eq] at hr
          obtain ⟨⟨⟨g1, g2⟩, g3⟩, g4⟩ := hr
          exact snd_back F hq HX (run_S (Qf := Qf) F hd' hSnd hy g4 (g2.elim Or.inl (fun z => Or.inr ⟨z.1, isGW_in z.2⟩)) hw (by rw [hlen, g3]) (chkM_of g1) hd hl hM hE hS (by omega) (by omega) h4) hl hE hS hc hn
        · cases hr
    · exact h.elim
/-! every instruction: what the small machine says of it holds of the real one; then every method -/
def RetI (q : MRow) (ins : Instr) (st : List Value) (v : Option Value) : Prop :=
  (ins = .ireturn ∧ ∃ (x : Int32) (ty : FieldType), st = [.int x] ∧ v = some (.int x) ∧ q.2.2.2.1 = some ty ∧ narrow ty (.int x) = .int x) ∨
  (ins = .lreturn ∧ ∃ x : Int64, st = [.long x] ∧ v = some (.long x) ∧ q.2.2.2.1 = some .long) ∨
  (ins = .dreturn ∧ ∃ x : UInt64, st = [.double x] ∧ v = some (.double x) ∧ q.2.2.2.1 = some .double) ∨
  (ins = .areturn ∧ ∃ (u : Value) (ty : FieldType), st = [u] ∧ v = some u ∧ (u = .null ∨ ∃ a, u = .ref a) ∧ q.2.2.2.1 = some ty ∧ isRefT ty = true) ∨
  (ins = .return_ ∧ st = [] ∧ v = none ∧ q.2.2.2.1 = none)
/-- what a frame owes at a return -/
def HRp (p : Program) (l : Launch) (e : Env) (R : Room) (s : State) (m : MethodId) (args : Array Value) (below : List Frame) (meth : Method) (cd : Code) (D : va_G) (G : Nat → ClassId) (τ0 : MTau) (C0 S0 : Nat) (q : MRow) (Qm : MPost) (Qf : State → Prop) : Prop :=
  ∀ (ins : Instr) (st : List Value) (v : Option Value) (pc : Nat) (la : Array Slot) (τ : MTau) (μ : MMu) (H : Heap) (locs : List Loc) (k j : Nat), RetI q ins st v → decode q.2.1 pc = .ok (ins, 1) → Qm (.inl v) τ μ → MRep D G τ μ H → mExt τ0 τ s.heap.size → va_S (mA τ0 s.heap.size) s.heap H locs → k ≤ C0 → j ≤ S0 → W p l e R s m args below meth cd H locs k j Qf (F0 m pc la st)
/-- what a frame owes where it throws -/
def HTp (p : Program) (l : Launch) (e : Env) (R : Room) (s : State) (m : MethodId) (args : Array Value) (below : List Frame) (meth : Method) (cd : Code) (D : va_G) (G : Nat → ClassId) (τ0 : MTau) (C0 S0 : Nat) (q : MRow) (Qm : MPost) (Qf : State → Prop) : Prop :=
  ∀ (idx l9 a w r : Nat) (st : List Value) (pc : Nat) (la : Array Slot) (τ : MTau) (μ : MMu) (H : Heap) (locs : List Loc) (k j : Nat), chkI q pc (.new idx, l9, a, 1, w, r) = true → Qm (.inr (excN a)) τ μ → MRep D G τ μ H → mExt τ0 τ s.heap.size → va_S (mA τ0 s.heap.size) s.heap H locs → k + 1 ≤ C0 → j + 6 ≤ S0 → st.length ≤ 4 → la.size = q.2.2.1 → W p l e R s m args below meth cd H locs k j Qf (F0 m pc la st)
theorem swL_at {P : Nat → Prop} {x : Int32} {pc : Nat} : ∀ (os : List Int) (k : Int), swL P x pc k os → ∀ (j : Nat) (off : Int), os[j]? = some off → x.toInt = k + j → P (tgOf pc off)
  | [], _, _, j, off, h, _ => by simp at h
  | o :: r, k, h, 0, off, h1, h2 => by
    simp at h1
    subst h1
    exact h.1 (by omega)
  | o :: r, k, h, j + 1, off, h1, h2 => swL_at r (k + 1) h.2 j off (by simpa using h1) (by omega)
theorem lko_c {k o df x : Int} {r : List (Int × Int)} : Op.lookupswitch.offset ((k, o) :: r) df x = if k = x then o else Op.lookupswitch.offset r df x := rfl
theorem swP_at {P : Nat → Prop} {x : Int32} {pc : Nat} {df : Int} : ∀ (ps : List (Int × Int)), swP P x pc ps → ((∀ z ∈ ps, x.toInt ≠ z.1) → P (tgOf pc df)) → P (tgOf pc (Op.lookupswitch.offset ps df x.toInt))
  | [], _, h2 => h2 (fun _ h => absurd h List.not_mem_nil)
  | (k, o) :: r, h, h2 => by
    rw [lko_c]
    by_cases hx : k = x.toInt
    · rw [if_pos hx]
      exact h.1 hx.symm
    · rw [if_neg hx]
      exact swP_at r h.2 (fun hz => h2 (fun z hz' => (List.mem_cons.mp hz').elim (fun e => by rw [e]; exact fun y => hx y.symm) (hz z)))
set_option maxHeartbeats 40000000 in
theorem snd_main {p : Program} {l : Launch} {e : Env} {R : Room} {s : State} {m : MethodId} {args : Array Value} {below : List Frame} {meth : Method} {cd : Code} {E : MEnv} {D : va_G} {G : Nat → ClassId} {τ0 : MTau} {d C0 S0 : Nat} {q : MRow} {Qf : State → Prop} (F : FX p l R s m args meth cd E D G τ0 d C0 S0 q) {d' : Nat} (hd' : d = d' + 1) (hSnd : Snd d') {i : Nat} (hq : MT[i]? = some q) {Qm : MPost} (HX : HXp p l e R s m args below meth cd D G τ0 C0 S0 q Qm Qf) (HR : HRp p l e R s m args below meth cd D G τ0 C0 S0 q Qm Qf) (HT : HTp p l e R s m args below meth cd D G τ0 C0 S0 q Qm Qf) {pc : Nat} {ls : MLoc} {τ : MTau} {c n : Nat} {μ : MMu} {st : List Value} {x : MEn} (hck : chkI q pc x = true) (h : exI E (mwp E d') Qm i (MWp p l e R s m args below meth cd D G τ0 q.2.2.1 C0 S0 Qf) pc ls st τ c n μ (some x)) : MWp p l e R s m args below meth cd D G τ0 q.2.2.1 C0 S0 Qf pc ls st τ c n μ := by
  have F' := F
  obtain ⟨hx, hb, hml, hown, hts, hK, hEnv, hRf, hRl, hCc, hSs, hinit, htab, hfl⟩ := F'
  obtain ⟨ins, l9, a, b, w, r⟩ := x
  have hd := chk_dec hck
  cases ins <;> try (exact h.elim)
  case iconst k =>
    have hr : l9 = 1 := by simpa [lnI] using (and_tt hck).2
    subst hr
    intro H locs la k9 j9 hl hM hE hS hc hn
    exact lv_iconst hx hb hd rfl (h H locs la k9 j9 hl hM hE hS hc hn)
  case bipush k =>
    have hr : l9 = 2 := by simpa [lnI] using (and_tt hck).2
    subst hr
    intro H locs la k9 j9 hl hM hE hS hc hn
    exact lv_bipush hx hb hd rfl (h H locs la k9 j9 hl hM hE hS hc hn)
  case sipush k =>
    have hr : l9 = 3 := by simpa [lnI] using (and_tt hck).2
    subst hr
    intro H locs la k9 j9 hl hM hE hS hc hn
    exact lv_sipush hx hb hd rfl (h H locs la k9 j9 hl hM hE hS hc hn)
  case lconst k =>
    have hr : l9 = 1 := by simpa [lnI] using (and_tt hck).2
    subst hr
    intro H locs la k9 j9 hl hM hE hS hc hn
    exact lv_lconst hx hb hd rfl (h H locs la k9 j9 hl hM hE hS hc hn)
  case aconst_null =>
    have hr : l9 = 1 := by simpa [lnI] using (and_tt hck).2
    subst hr
    intro H locs la k9 j9 hl hM hE hS hc hn
    exact lv_null hx hb hd (h H locs la k9 j9 hl hM hE hS hc hn)
  case ldc idx =>
    obtain ⟨rfl, hr⟩ := len_of (and_tt hck).2
    have h : if a < 100 then a ≤ 4 ∧ MWp p l e R s m args below meth cd D G τ0 q.2.2.1 C0 S0 Qf (pc + 2) ls (.int (mInt a) :: st) τ c n μ else MWp p l e R s m args below meth cd D G τ0 q.2.2.1 C0 S0 Qf (pc + 2) ls (E.1 a :: st) τ c n μ := h
    by_cases ha9 : a < 100
    · rw [if_pos ha9] at hr h
      obtain ⟨ha1, h⟩ := h
      have hw : isGW w (.constant q.1.cls idx (mInt a)) = true := by
        rcases Bool.or_eq_true_iff.mp hr with h9 | h9
        · exact absurd (of_decide_eq_true h9) (by omega)
        · exact h9
      intro H locs la k9 j9 hl hM hE hS hc hn
      exact lv_ldc hx hb hown (hts _ (isGW_in hw)) hd (h H locs la k9 j9 hl hM hE hS hc hn)
    · rw [if_neg ha9] at hr h
      simp only [Bool.and_eq_true, decide_eq_true_eq] at hr
      obtain ⟨⟨hr1, hr2⟩, hr3⟩ := hr
      intro H locs la k9 j9 hl hM hE hS hc hn
      have hZ := hK.2.2.2.1 (a - 100) (by omega)
      have hLk := F.2.2.2.2.2.2.2.2.2.2.2.2.2.2 (a - 100) (by omega)
      rw [hr2, hr3] at hZ
      rw [show 100 + (a - 100) = a by omega] at hZ hLk
      have h := h H locs la k9 j9 hl hM hE hS hc hn
      rw [hLk] at h
      exact va_ldcS hx hb hown hZ hd h
  case ldc2_w idx =>
    obtain ⟨rfl, hr⟩ := len_of (and_tt hck).2
    intro H locs la k9 j9 hl hM hE hS hc hn
    exact lv_ldc2 hx hb hown (hts _ (isGW_in hr)) hd (h H locs la k9 j9 hl hM hE hS hc hn)
  case iload_n k =>
    have hr : l9 = 1 := by simpa [lnI] using (and_tt hck).2
    subst hr
    have h : xload isI (MWp p l e R s m args below meth cd D G τ0 q.2.2.1 C0 S0 Qf) (pc + 1) k.val ls st τ c n μ := h
    unfold xload at h
    split at h
    · rename_i v hv
      obtain ⟨hok, h⟩ := h
      intro H locs la k9 j9 hl hM hE hS hc hn
      have hla := lget_has hl hv
      cases v <;> first | exact lv_iload_n hx hb hd rfl hla (h H locs la k9 j9 hl hM hE hS hc hn) | (exact absurd hok (by decide)) | (cases hok)
    · exact h.elim
  case iload k =>
    have hr : l9 = 2 := by simpa [lnI] using (and_tt hck).2
    subst hr
    have h : xload isI (MWp p l e R s m args below meth cd D G τ0 q.2.2.1 C0 S0 Qf) (pc + 2) k ls st τ c n μ := h
    unfold xload at h
    split at h
    · rename_i v hv
      obtain ⟨hok, h⟩ := h
      intro H locs la k9 j9 hl hM hE hS hc hn
      have hla := lget_has hl hv
      cases v <;> first | exact lv_iload hx hb hd hla (h H locs la k9 j9 hl hM hE hS hc hn) | (exact absurd hok (by decide)) | (cases hok)
    · exact h.elim
  case lload_n k =>
    have hr : l9 = 1 := by simpa [lnI] using (and_tt hck).2
    subst hr
    have h : xload isL (MWp p l e R s m args below meth cd D G τ0 q.2.2.1 C0 S0 Qf) (pc + 1) k.val ls st τ c n μ := h
    unfold xload at h
    split at h
    · rename_i v hv
      obtain ⟨hok, h⟩ := h
      intro H locs la k9 j9 hl hM hE hS hc hn
      have hla := lget_has hl hv
      cases v <;> first | exact lv_lload_n hx hb hd rfl hla (h H locs la k9 j9 hl hM hE hS hc hn) | (exact absurd hok (by decide)) | (cases hok)
    · exact h.elim
  case lload k =>
    have hr : l9 = 2 := by simpa [lnI] using (and_tt hck).2
    subst hr
    have h : xload isL (MWp p l e R s m args below meth cd D G τ0 q.2.2.1 C0 S0 Qf) (pc + 2) k ls st τ c n μ := h
    unfold xload at h
    split at h
    · rename_i v hv
      obtain ⟨hok, h⟩ := h
      intro H locs la k9 j9 hl hM hE hS hc hn
      have hla := lget_has hl hv
      cases v <;> first | exact lv_lload hx hb hd hla (h H locs la k9 j9 hl hM hE hS hc hn) | (exact absurd hok (by decide)) | (cases hok)
    · exact h.elim
  case dload k =>
    have hr : l9 = 2 := by simpa [lnI] using (and_tt hck).2
    subst hr
    have h : xload isD (MWp p l e R s m args below meth cd D G τ0 q.2.2.1 C0 S0 Qf) (pc + 2) k ls st τ c n μ := h
    unfold xload at h
    split at h
    · rename_i v hv
      obtain ⟨hok, h⟩ := h
      intro H locs la k9 j9 hl hM hE hS hc hn
      have hla := lget_has hl hv
      cases v <;> first | exact lv_dload hx hb hd hla (h H locs la k9 j9 hl hM hE hS hc hn) | (exact absurd hok (by decide)) | (cases hok)
    · exact h.elim
  case aload_n k =>
    have hr : l9 = 1 := by simpa [lnI] using (and_tt hck).2
    subst hr
    have h : xload isA (MWp p l e R s m args below meth cd D G τ0 q.2.2.1 C0 S0 Qf) (pc + 1) k.val ls st τ c n μ := h
    unfold xload at h
    split at h
    · rename_i v hv
      obtain ⟨hok, h⟩ := h
      intro H locs la k9 j9 hl hM hE hS hc hn
      have hla := lget_has hl hv
      cases v <;> first | exact lv_aload_n hx hb hd rfl hla (h H locs la k9 j9 hl hM hE hS hc hn) | exact lv_aload_nN hx hb hd rfl hla (h H locs la k9 j9 hl hM hE hS hc hn) | (exact absurd hok (by decide)) | (cases hok)
    · exact h.elim
  case aload k =>
    have hr : l9 = 2 := by simpa [lnI] using (and_tt hck).2
    subst hr
    have h : xload isA (MWp p l e R s m args below meth cd D G τ0 q.2.2.1 C0 S0 Qf) (pc + 2) k ls st τ c n μ := h
    unfold xload at h
    split at h
    · rename_i v hv
      obtain ⟨hok, h⟩ := h
      intro H locs la k9 j9 hl hM hE hS hc hn
      have hla := lget_has hl hv
      cases v <;> first | exact lv_aload hx hb hd hla (h H locs la k9 j9 hl hM hE hS hc hn) | exact lv_aloadN hx hb hd hla (h H locs la k9 j9 hl hM hE hS hc hn) | (exact absurd hok (by decide)) | (cases hok)
    · exact h.elim
  case istore_n k =>
    obtain ⟨rfl, hr⟩ := len_of (and_tt hck).2
    have hr := of_decide_eq_true hr
    dsimp only [exI] at h
    split at h
    · rename_i xx qq
      intro H locs la k9 j9 hl hM hE hS hc hn
      refine lv_istore_n (lv' := _ :: ldel1 k.val ls) hx hb hd rfl hl hr (by rw [ldel1_eq]) (fun ls1 hl1 => ?_)
      exact h H locs ls1 k9 j9 hl1 hM hE hS hc hn
    · exact h.elim
  case istore k =>
    obtain ⟨rfl, hr⟩ := len_of (and_tt hck).2
    have hr := of_decide_eq_true hr
    dsimp only [exI] at h
    split at h
    · rename_i xx qq
      intro H locs la k9 j9 hl hM hE hS hc hn
      refine lv_istore (lv' := _ :: ldel1 k ls) hx hb hd hl hr (by rw [ldel1_eq]) (fun ls1 hl1 => ?_)
      exact h H locs ls1 k9 j9 hl1 hM hE hS hc hn
    · exact h.elim
  case astore_n k =>
    obtain ⟨rfl, hr⟩ := len_of (and_tt hck).2
    have hr := of_decide_eq_true hr
    dsimp only [exI] at h
    split at h
    · rename_i xx qq
      intro H locs la k9 j9 hl hM hE hS hc hn
      refine lv_astore_n (lv' := _ :: ldel1 k.val ls) hx hb hd rfl hl hr (by rw [ldel1_eq]) (fun ls1 hl1 => ?_)
      exact h H locs ls1 k9 j9 hl1 hM hE hS hc hn
    · rename_i qq
      intro H locs la k9 j9 hl hM hE hS hc hn
      refine lv_astore_nN (lv' := _ :: ldel1 k.val ls) hx hb hd rfl hl hr (by rw [ldel1_eq]) (fun ls1 hl1 => ?_)
      exact h H locs ls1 k9 j9 hl1 hM hE hS hc hn
    · exact h.elim
  case astore k =>
    obtain ⟨rfl, hr⟩ := len_of (and_tt hck).2
    have hr := of_decide_eq_true hr
    dsimp only [exI] at h
    split at h
    · rename_i xx qq
      intro H locs la k9 j9 hl hM hE hS hc hn
      refine lv_astore (lv' := _ :: ldel1 k ls) hx hb hd hl hr (by rw [ldel1_eq]) (fun ls1 hl1 => ?_)
      exact h H locs ls1 k9 j9 hl1 hM hE hS hc hn
    · rename_i qq
      intro H locs la k9 j9 hl hM hE hS hc hn
      refine lv_astoreN (lv' := _ :: ldel1 k ls) hx hb hd hl hr (by rw [ldel1_eq]) (fun ls1 hl1 => ?_)
      exact h H locs ls1 k9 j9 hl1 hM hE hS hc hn
    · exact h.elim
  case lstore_n k =>
    obtain ⟨rfl, hr⟩ := len_of (and_tt hck).2
    have hr := of_decide_eq_true hr
    dsimp only [exI] at h
    split at h
    · rename_i xx qq
      intro H locs la k9 j9 hl hM hE hS hc hn
      refine lv_lstore_n (lv' := _ :: ldel2 k.val ls) hx hb hd rfl hl hr (by rw [ldel2_eq]) (fun ls1 hl1 => ?_)
      exact h H locs ls1 k9 j9 hl1 hM hE hS hc hn
    · exact h.elim
  case lstore k =>
    obtain ⟨rfl, hr⟩ := len_of (and_tt hck).2
    have hr := of_decide_eq_true hr
    dsimp only [exI] at h
    split at h
    · rename_i xx qq
      intro H locs la k9 j9 hl hM hE hS hc hn
      refine lv_lstore (lv' := _ :: ldel2 k ls) hx hb hd hl hr (by rw [ldel2_eq]) (fun ls1 hl1 => ?_)
      exact h H locs ls1 k9 j9 hl1 hM hE hS hc hn
    · exact h.elim
  case dstore k =>
    obtain ⟨rfl, hr⟩ := len_of (and_tt hck).2
    have hr := of_decide_eq_true hr
    dsimp only [exI] at h
    split at h
    · rename_i xx qq
      intro H locs la k9 j9 hl hM hE hS hc hn
      refine lv_dstore (lv' := _ :: ldel2 k ls) hx hb hd hl hr (by rw [ldel2_eq]) (fun ls1 hl1 => ?_)
      exact h H locs ls1 k9 j9 hl1 hM hE hS hc hn
    · exact h.elim
  case iinc k dd =>
    obtain ⟨rfl, hr⟩ := len_of (and_tt hck).2
    have hr := of_decide_eq_true hr
    dsimp only [exI] at h
    split at h
    · rename_i xx hv
      intro H locs la k9 j9 hl hM hE hS hc hn
      have hmem : ∃ z : Nat, ls[z]? = some (k, Value.int xx) := by
        have h1 : ∀ L : MLoc, lget L k = some (Value.int xx) → (k, Value.int xx) ∈ L := by
          intro L
          induction L with
          | nil => intro h; cases h
          | cons y r ih =>
            obtain ⟨j, u⟩ := y
            intro h
            rw [lget] at h
            by_cases e : j = k
            · rw [if_pos e] at h
              cases h
              subst e
              exact List.mem_cons_self
            · rw [if_neg e] at h
              exact List.mem_cons_of_mem _ (ih h)
        exact List.getElem?_of_mem (h1 ls hv)
      obtain ⟨z, hz⟩ := hmem
      refine lv_iinc (lv' := _ :: ldel1 k ls) hx hb hd hl hz rfl hr (by rw [ldel1_eq]) (fun ls1 hl1 => ?_)
      exact h H locs ls1 k9 j9 hl1 hM hE hS hc hn
    · exact h.elim
  case iadd =>
    have hr : l9 = 1 := by simpa [lnI] using (and_tt hck).2
    subst hr
    dsimp only [exI] at h
    split at h
    · rename_i x0 x1 x2
      intro H locs la k9 j9 hl hM hE hS hc hn
      exact lv_iadd hx hb hd (h H locs la k9 j9 hl hM hE hS hc hn)
    · exact h.elim
  case isub =>
    have hr : l9 = 1 := by simpa [lnI] using (and_tt hck).2
    subst hr
    dsimp only [exI] at h
    split at h
    · rename_i x0 x1 x2
      intro H locs la k9 j9 hl hM hE hS hc hn
      exact lv_isub hx hb hd (h H locs la k9 j9 hl hM hE hS hc hn)
    · exact h.elim
  case imul =>
    have hr : l9 = 1 := by simpa [lnI] using (and_tt hck).2
    subst hr
    dsimp only [exI] at h
    split at h
    · rename_i x0 x1 x2
      intro H locs la k9 j9 hl hM hE hS hc hn
      exact lv_imul hx hb hd (h H locs la k9 j9 hl hM hE hS hc hn)
    · exact h.elim
  case iand =>
    have hr : l9 = 1 := by simpa [lnI] using (and_tt hck).2
    subst hr
    dsimp only [exI] at h
    split at h
    · rename_i x0 x1 x2
      intro H locs la k9 j9 hl hM hE hS hc hn
      exact lv_iand hx hb hd (h H locs la k9 j9 hl hM hE hS hc hn)
    · exact h.elim
  case ior =>
    have hr : l9 = 1 := by simpa [lnI] using (and_tt hck).2
    subst hr
    dsimp only [exI] at h
    split at h
    · rename_i x0 x1 x2
      intro H locs la k9 j9 hl hM hE hS hc hn
      exact lv_ior hx hb hd (h H locs la k9 j9 hl hM hE hS hc hn)
    · exact h.elim
  case ixor =>
    have hr : l9 = 1 := by simpa [lnI] using (and_tt hck).2
    subst hr
    dsimp only [exI] at h
    split at h
    · rename_i x0 x1 x2
      intro H locs la k9 j9 hl hM hE hS hc hn
      exact lv_ixor hx hb hd (h H locs la k9 j9 hl hM hE hS hc hn)
    · exact h.elim
  case ishr =>
    have hr : l9 = 1 := by simpa [lnI] using (and_tt hck).2
    subst hr
    dsimp only [exI] at h
    split at h
    · rename_i x0 x1 x2
      intro H locs la k9 j9 hl hM hE hS hc hn
      exact lv_ishr hx hb hd (h H locs la k9 j9 hl hM hE hS hc hn)
    · exact h.elim
  case ishl =>
    have hr : l9 = 1 := by simpa [lnI] using (and_tt hck).2
    subst hr
    dsimp only [exI] at h
    split at h
    · rename_i x0 x1 x2
      intro H locs la k9 j9 hl hM hE hS hc hn
      exact lv_ishl hx hb hd (h H locs la k9 j9 hl hM hE hS hc hn)
    · exact h.elim
  case ladd =>
    have hr : l9 = 1 := by simpa [lnI] using (and_tt hck).2
    subst hr
    dsimp only [exI] at h
    split at h
    · rename_i x0 x1 x2
      intro H locs la k9 j9 hl hM hE hS hc hn
      exact lv_ladd hx hb hd (h H locs la k9 j9 hl hM hE hS hc hn)
    · exact h.elim
  case lsub =>
    have hr : l9 = 1 := by simpa [lnI] using (and_tt hck).2
    subst hr
    dsimp only [exI] at h
    split at h
    · rename_i x0 x1 x2
      intro H locs la k9 j9 hl hM hE hS hc hn
      exact lv_lsub hx hb hd (h H locs la k9 j9 hl hM hE hS hc hn)
    · exact h.elim
  case lmul =>
    have hr : l9 = 1 := by simpa [lnI] using (and_tt hck).2
    subst hr
    dsimp only [exI] at h
    split at h
    · rename_i x0 x1 x2
      intro H locs la k9 j9 hl hM hE hS hc hn
      exact lv_lmul hx hb hd (h H locs la k9 j9 hl hM hE hS hc hn)
    · exact h.elim
  case idiv =>
    have hr : l9 = 1 := by simpa [lnI] using (and_tt hck).2
    subst hr
    dsimp only [exI] at h
    split at h
    · rename_i x0 x1 x2
      obtain ⟨h0, h⟩ := h
      intro H locs la k9 j9 hl hM hE hS hc hn
      exact lv_idiv hx hb hd h0 (h H locs la k9 j9 hl hM hE hS hc hn)
    · exact h.elim
  case irem =>
    have hr : l9 = 1 := by simpa [lnI] using (and_tt hck).2
    subst hr
    dsimp only [exI] at h
    split at h
    · rename_i x0 x1 x2
      obtain ⟨h0, h⟩ := h
      intro H locs la k9 j9 hl hM hE hS hc hn
      exact lv_irem hx hb hd h0 (h H locs la k9 j9 hl hM hE hS hc hn)
    · exact h.elim
  case ineg =>
    have hr : l9 = 1 := by simpa [lnI] using (and_tt hck).2
    subst hr
    dsimp only [exI] at h
    split at h
    · rename_i x0 x1
      intro H locs la k9 j9 hl hM hE hS hc hn
      exact lv_ineg hx hb hd (h H locs la k9 j9 hl hM hE hS hc hn)
    · exact h.elim
  case i2b =>
    have hr : l9 = 1 := by simpa [lnI] using (and_tt hck).2
    subst hr
    dsimp only [exI] at h
    split at h
    · rename_i x0 x1
      intro H locs la k9 j9 hl hM hE hS hc hn
      exact lv_i2b hx hb hd rfl (h H locs la k9 j9 hl hM hE hS hc hn)
    · exact h.elim
  case i2c =>
    have hr : l9 = 1 := by simpa [lnI] using (and_tt hck).2
    subst hr
    dsimp only [exI] at h
    split at h
    · rename_i x0 x1
      intro H locs la k9 j9 hl hM hE hS hc hn
      exact lv_i2c hx hb hd rfl (h H locs la k9 j9 hl hM hE hS hc hn)
    · exact h.elim
  case i2l =>
    have hr : l9 = 1 := by simpa [lnI] using (and_tt hck).2
    subst hr
    dsimp only [exI] at h
    split at h
    · rename_i x0 x1
      intro H locs la k9 j9 hl hM hE hS hc hn
      exact lv_i2l hx hb hd rfl (h H locs la k9 j9 hl hM hE hS hc hn)
    · exact h.elim
  case l2i =>
    have hr : l9 = 1 := by simpa [lnI] using (and_tt hck).2
    subst hr
    dsimp only [exI] at h
    split at h
    · rename_i x0 x1
      intro H locs la k9 j9 hl hM hE hS hc hn
      exact lv_l2i hx hb hd rfl (h H locs la k9 j9 hl hM hE hS hc hn)
    · exact h.elim
  case l2d =>
    have hr : l9 = 1 := by simpa [lnI] using (and_tt hck).2
    subst hr
    dsimp only [exI] at h
    split at h
    · rename_i x0 x1
      intro H locs la k9 j9 hl hM hE hS hc hn
      exact lv_l2d hx hb hd (h H locs la k9 j9 hl hM hE hS hc hn)
    · exact h.elim
  case i2d =>
    have hr : l9 = 1 := by simpa [lnI] using (and_tt hck).2
    subst hr
    dsimp only [exI] at h
    split at h
    · rename_i x0 x1
      intro H locs la k9 j9 hl hM hE hS hc hn
      exact lv_i2d hx hb hd (h H locs la k9 j9 hl hM hE hS hc hn)
    · exact h.elim
  case lcmp =>
    have hr : l9 = 1 := by simpa [lnI] using (and_tt hck).2
    subst hr
    dsimp only [exI] at h
    split at h
    · rename_i x0 x1 x2
      intro H locs la k9 j9 hl hM hE hS hc hn
      exact W.lcmp hx hb hd (h H locs la k9 j9 hl hM hE hS hc hn)
    · exact h.elim
  case ddiv =>
    have hr : l9 = 1 := by simpa [lnI] using (and_tt hck).2
    subst hr
    dsimp only [exI] at h
    split at h
    · rename_i x0 x1 x2
      obtain ⟨h0, h⟩ := h
      intro H locs la k9 j9 hl hM hE hS hc hn
      exact lv_ddiv hx hb hd h0 (h H locs la k9 j9 hl hM hE hS hc hn)
    · exact h.elim
  case dcmp op =>
    have hr : l9 = 1 := by simpa [lnI] using (and_tt hck).2
    subst hr
    dsimp only [exI] at h
    split at h
    · rename_i x0 x1 x2
      intro H locs la k9 j9 hl hM hE hS hc hn
      exact lv_dcmp hx hb hd (h H locs la k9 j9 hl hM hE hS hc hn)
    · exact h.elim
  case dup =>
    have hr : l9 = 1 := by simpa [lnI] using (and_tt hck).2
    subst hr
    dsimp only [exI] at h
    split at h
    · rename_i x0 x1
      obtain ⟨h0, h⟩ := h
      intro H locs la k9 j9 hl hM hE hS hc hn
      exact lv_dup hx hb hd h0 (h H locs la k9 j9 hl hM hE hS hc hn)
    · exact h.elim
  case dup2 =>
    have hr : l9 = 1 := by simpa [lnI] using (and_tt hck).2
    subst hr
    dsimp only [exI] at h
    split at h
    · rename_i x0 x1 x2
      obtain ⟨h0, h1, h⟩ := h
      intro H locs la k9 j9 hl hM hE hS hc hn
      exact lv_dup2_11 hx hb hd h0 h1 (h H locs la k9 j9 hl hM hE hS hc hn)
    · exact h.elim
  case pop =>
    have hr : l9 = 1 := by simpa [lnI] using (and_tt hck).2
    subst hr
    dsimp only [exI] at h
    split at h
    · rename_i x0 x1
      obtain ⟨h0, h⟩ := h
      intro H locs la k9 j9 hl hM hE hS hc hn
      exact lv_pop hx hb hd h0 (h H locs la k9 j9 hl hM hE hS hc hn)
    · exact h.elim
  case goto off =>
    obtain ⟨rfl, hr⟩ := len_of (and_tt hck).2
    have hr := of_decide_eq_true hr
    intro H locs la k9 j9 hl hM hE hS hc hn
    exact lv_goto hx hb hd hr (h H locs la k9 j9 hl hM hE hS hc hn)
  case ifCond cc off =>
    obtain ⟨rfl, hr⟩ := len_of (and_tt hck).2
    have hr := of_decide_eq_true hr
    dsimp only [exI] at h
    split at h
    · rename_i x0 x1
      cases cc with
      | eq =>
        intro H locs la k9 j9 hl hM hE hS hc hn
        exact lv_if_eq hx hb hd hr (fun z => h.1 z H locs la k9 j9 hl hM hE hS hc hn) (fun z => h.2 z H locs la k9 j9 hl hM hE hS hc hn)
      | ne =>
        intro H locs la k9 j9 hl hM hE hS hc hn
        exact lv_if_ne hx hb hd hr (fun z => h.1 z H locs la k9 j9 hl hM hE hS hc hn) (fun z => h.2 z H locs la k9 j9 hl hM hE hS hc hn)
      | lt =>
        intro H locs la k9 j9 hl hM hE hS hc hn
        exact lv_if_lt hx hb hd hr (fun z => h.1 z H locs la k9 j9 hl hM hE hS hc hn) (fun z => h.2 z H locs la k9 j9 hl hM hE hS hc hn)
      | ge =>
        intro H locs la k9 j9 hl hM hE hS hc hn
        exact lv_if_ge hx hb hd hr (fun z => h.1 (Int32.not_lt.mpr z) H locs la k9 j9 hl hM hE hS hc hn) (fun z => h.2 (Int32.not_le.mp z) H locs la k9 j9 hl hM hE hS hc hn)
      | gt =>
        intro H locs la k9 j9 hl hM hE hS hc hn
        exact lv_if_gt hx hb hd hr (fun z => h.1 z H locs la k9 j9 hl hM hE hS hc hn) (fun z => h.2 z H locs la k9 j9 hl hM hE hS hc hn)
      | le =>
        intro H locs la k9 j9 hl hM hE hS hc hn
        exact lv_if_le hx hb hd hr (fun z => h.1 (Int32.not_lt.mpr z) H locs la k9 j9 hl hM hE hS hc hn) (fun z => h.2 (Int32.not_le.mp z) H locs la k9 j9 hl hM hE hS hc hn)
    · exact h.elim
  case if_icmp cc off =>
    obtain ⟨rfl, hr⟩ := len_of (and_tt hck).2
    have hr := of_decide_eq_true hr
    dsimp only [exI] at h
    split at h
    · rename_i x0 x1 x2
      cases cc with
      | eq =>
        intro H locs la k9 j9 hl hM hE hS hc hn
        exact lv_icmp_eq hx hb hd hr (fun z => h.1 z H locs la k9 j9 hl hM hE hS hc hn) (fun z => h.2 z H locs la k9 j9 hl hM hE hS hc hn)
      | ne =>
        intro H locs la k9 j9 hl hM hE hS hc hn
        exact lv_icmp_ne hx hb hd hr (fun z => h.1 z H locs la k9 j9 hl hM hE hS hc hn) (fun z => h.2 z H locs la k9 j9 hl hM hE hS hc hn)
      | lt =>
        intro H locs la k9 j9 hl hM hE hS hc hn
        exact lv_icmp_lt hx hb hd hr (fun z => h.1 z H locs la k9 j9 hl hM hE hS hc hn) (fun z => h.2 z H locs la k9 j9 hl hM hE hS hc hn)
      | ge =>
        intro H locs la k9 j9 hl hM hE hS hc hn
        exact lv_icmp_ge hx hb hd hr (fun z => h.1 (Int32.not_lt.mpr z) H locs la k9 j9 hl hM hE hS hc hn) (fun z => h.2 (Int32.not_le.mp z) H locs la k9 j9 hl hM hE hS hc hn)
      | gt =>
        intro H locs la k9 j9 hl hM hE hS hc hn
        exact lv_icmp_gt hx hb hd hr (fun z => h.1 z H locs la k9 j9 hl hM hE hS hc hn) (fun z => h.2 z H locs la k9 j9 hl hM hE hS hc hn)
      | le =>
        intro H locs la k9 j9 hl hM hE hS hc hn
        exact lv_icmp_le hx hb hd hr (fun z => h.1 (Int32.not_lt.mpr z) H locs la k9 j9 hl hM hE hS hc hn) (fun z => h.2 (Int32.not_le.mp z) H locs la k9 j9 hl hM hE hS hc hn)
    · exact h.elim
  case ifnull off =>
    obtain ⟨rfl, hr⟩ := len_of (and_tt hck).2
    have hr := of_decide_eq_true hr
    dsimp only [exI] at h
    split at h
    · intro H locs la k9 j9 hl hM hE hS hc hn
      exact lv_ifnullN hx hb hd hr (h H locs la k9 j9 hl hM hE hS hc hn)
    · intro H locs la k9 j9 hl hM hE hS hc hn
      exact lv_ifnull hx hb hd (h H locs la k9 j9 hl hM hE hS hc hn)
    · exact h.elim
  case ifnonnull off =>
    obtain ⟨rfl, hr⟩ := len_of (and_tt hck).2
    have hr := of_decide_eq_true hr
    dsimp only [exI] at h
    split at h
    · intro H locs la k9 j9 hl hM hE hS hc hn
      exact lv_ifnonnullN hx hb hd (h H locs la k9 j9 hl hM hE hS hc hn)
    · intro H locs la k9 j9 hl hM hE hS hc hn
      exact lv_ifnonnull hx hb hd hr (h H locs la k9 j9 hl hM hE hS hc hn)
    · exact h.elim
  case tableswitch df lo hi offs =>
    have hr := (and_tt hck).2
    obtain ⟨h12, h3⟩ := and_tt hr
    obtain ⟨h1, h2⟩ := and_tt h12
    have h1 := of_decide_eq_true h1
    have h3 := of_decide_eq_true h3
    dsimp only [exI] at h
    split at h
    · rename_i x0 x1
      intro H locs la k9 j9 hl hM hE hS hc hn
      by_cases hlo : x0.toInt < lo ∨ hi < x0.toInt
      · exact lv_tableOut hx hb hd hlo (tgOf_eq h3) (h.1 hlo H locs la k9 j9 hl hM hE hS hc hn)
      · have hlo1 : ¬ x0.toInt < lo := fun z => hlo (Or.inl z)
        have hlo2 : ¬ hi < x0.toInt := fun z => hlo (Or.inr z)
        have hj : (x0.toInt - lo).toNat < offs.size := by omega
        have ho : offs[(x0.toInt - lo).toNat]? = some (offs[(x0.toInt - lo).toNat]) := Array.getElem?_eq_getElem hj
        have hof : 0 ≤ (pc : Int) + offs[(x0.toInt - lo).toNat] := by
          have h9 := List.all_eq_true.mp h2 _ (show offs[(x0.toInt - lo).toNat] ∈ offs.toList from by simp)
          exact of_decide_eq_true h9
        refine lv_tableIn hx hb hd hlo1 hlo2 ho (tgOf_eq hof) ?_
        exact swL_at _ _ h.2 (x0.toInt - lo).toNat _ (by simpa using ho) (by omega) H locs la k9 j9 hl hM hE hS hc hn
    · exact h.elim
  case lookupswitch df ps =>
    have hr := (and_tt hck).2
    obtain ⟨h12, h3⟩ := and_tt hr
    obtain ⟨h1, h2⟩ := and_tt h12
    have h3 := of_decide_eq_true h3
    dsimp only [exI] at h
    split at h
    · rename_i x0 x1
      intro H locs la k9 j9 hl hM hE hS hc hn
      have hof : 0 ≤ (pc : Int) + Op.lookupswitch.offset ps.toList df x0.toInt := by
        have key : ∀ L : List (Int × Int), (∀ z ∈ L, 0 ≤ (pc : Int) + z.2) → 0 ≤ (pc : Int) + Op.lookupswitch.offset L df x0.toInt := by
          intro L
          induction L with
          | nil => intro _; exact h3
          | cons y r ih =>
            intro hz
            have h8 := ih (fun z hz' => hz z (List.mem_cons_of_mem _ hz'))
            obtain ⟨y1, y2⟩ := y
            rw [lko_c]
            by_cases hy : y1 = x0.toInt
            · rw [if_pos hy]
              exact hz _ List.mem_cons_self
            · rw [if_neg hy]
              exact h8
        exact key _ (fun z hz => of_decide_eq_true (List.all_eq_true.mp h2 z hz))
      refine lv_lookup hx hb hd h1 rfl (tgOf_eq hof) ?_
      exact swP_at (df := df) ps.toList h.2 h.1 H locs la k9 j9 hl hM hE hS hc hn
    · exact h.elim
  case getfield idx =>
    dsimp only [exI] at h
    split at h
    · rename_i o rest
      split at h
      · rename_i v hv
        exact sn_get F hck hv h
      · exact h.elim
    · exact h.elim
  case putfield idx =>
    dsimp only [exI] at h
    split at h
    · obtain ⟨h1, h2, h3⟩ := h
      exact sn_put F hck h1 h2 h3
    · exact h.elim
  case getstatic idx =>
    obtain ⟨rfl, hr⟩ := len_of (and_tt hck).2
    obtain ⟨ha9, hr⟩ := and_tt hr
    have ha9 := of_decide_eq_true ha9
    intro H locs la k9 j9 hl hM hE hS hc hn
    rcases chkF_of hr with hw | ⟨hh, hw⟩
    · exact va_gets hx hb (hEnv.1 a ha9) hS hown (hts _ hw) (fun _ z => z) hd (h H locs la k9 j9 hl hM hE hS hc hn)
    · exact va_getsN hx hb (hEnv.1 a ha9) hS hown (va_Nw.use rfl (hK.2.1 _ hw)) (fun _ z => z) hd (h H locs la k9 j9 hl hM hE hS hc hn)
  case new idx =>
    match b, hck, hd, h with
    | 0, hck, hd, h =>
      obtain ⟨h1, h2, h3⟩ := h
      exact sn_new F hck h1 h2 h3
    | 1, hck, hd, h =>
      obtain ⟨h1, h2, h3, h4⟩ := h
      intro H locs la k9 j9 hl hM hE hS hc hn
      exact HT idx l9 a w r st pc la τ μ H locs k9 j9 hck h4 hM hE hS (by omega) (by omega) h3 hl.1
    | b + 2, hck, hd, h => exact h.elim
  case newarray t =>
    dsimp only [exI] at h
    split at h
    · obtain ⟨h1, h2, h3, h4, h5, h6⟩ := h
      exact sn_newa F hck h1 h2 h3 h4 h5 h6
    · exact h.elim
  case anewarray idx =>
    dsimp only [exI] at h
    split at h
    · obtain ⟨h1, h2, h3, h4, h5⟩ := h
      exact sn_anew F hck h1 h2 h3 h4 h5
    · exact h.elim
  case arraylength =>
    dsimp only [exI] at h
    split at h
    · rename_i o rest
      split at h
      · rename_i t9 N9 f9 ha9
        exact sn_alen F hck ha9 h
      · exact h.elim
    · exact h.elim
  case iaload => exact sn_iald F hck h
  case laload => exact sn_lald F hck h
  case baload => exact sn_bald F hck h
  case aaload => exact sn_aald F hck h
  case iastore =>
    dsimp only [exI] at h
    split at h
    · split at h
      · rename_i ho9
        exact sn_iast F hck ho9 h.1 h.2
      · exact h.elim
    · exact h.elim
  case lastore =>
    dsimp only [exI] at h
    split at h
    · split at h
      · rename_i ho9
        intro H locs la k9 j9 hl hM hE hS hc hn
        exact absurd (hM.arr ho9).1 (by decide)
      · exact h.elim
    · exact h.elim
  case bastore =>
    dsimp only [exI] at h
    split at h
    · split at h
      · rename_i ho9
        exact sn_bast F hck ho9 h.1 h.2
      · rename_i ho9
        intro H locs la k9 j9 hl hM hE hS hc hn
        exact absurd (hM.arr ho9).1 (by decide)
      · exact h.elim
    · exact h.elim
  case aastore =>
    dsimp only [exI] at h
    split at h
    · split at h
      · rename_i ho9
        exact sn_aast F hck ho9 h.1 h.2.1 h.2.2
      · exact h.elim
    · exact h.elim
  case checkcast idx =>
    obtain ⟨rfl, hr⟩ := len_of (and_tt hck).2
    dsimp only [exI] at h
    split at h
    · obtain ⟨⟨N9, ho9⟩, ha9, h⟩ := h
      subst ha9
      have hr : isGW w (.classLink q.1.cls idx "[B") = true := by simpa using hr
      intro H locs la k9 j9 hl hM hE hS hc hn
      obtain ⟨-, hc9⟩ := hM.arr ho9
      intro T hT X
      obtain ⟨vm', X', st9⟩ := X.checkcastYes hx hown (hts _ (isGW_in hr)) (by rw [hT]; exact hc9) rfl (va_nm_byte (hK.1.2 1 _ rfl).2) (va_asg _ _) (g := F0 m pc la (.ref _ :: _)) rfl rfl (by rw [hb]; exact hd)
      obtain ⟨t9, a1, b1⟩ := h H locs la k9 j9 hl hM hE hS hc hn (T.setVm vm') hT X'
      exact ⟨t9, st9 t9 a1, b1⟩
    · exact h.elim
  case invokestatic idx =>
    exact sn_istat F hd' hSnd hq HX hck h
  case invokevirtual idx =>
    exact sn_ivirt F hd' hSnd hq HX hck h
  case invokespecial idx =>
    exact sn_ispec F hd' hSnd hq HX hck h
  case ireturn =>
    have hr := len_of (and_tt hck).2
    obtain ⟨rfl, hr⟩ := hr
    dsimp only [exI] at h
    split at h
    · rename_i x0
      obtain ⟨h0, h⟩ := h
      intro H locs la k9 j9 hl hM hE hS hc hn
      refine HR .ireturn [.int x0] (some (.int x0)) pc la τ μ H locs k9 j9 (Or.inl ⟨rfl, x0, ?_⟩) hd h hM hE hS (by omega) (by omega)
      split at hr
      · rename_i e1
        exact ⟨_, rfl, rfl, e1, rfl⟩
      · rename_i e1
        refine ⟨_, rfl, rfl, e1, ?_⟩
        rcases h0 with h0 | h0 <;> subst h0 <;> decide
      · rename_i e1
        refine ⟨_, rfl, rfl, e1, ?_⟩
        have h0 : x0.toInt8.toInt32 = x0 := h0
        rw [narrow_byte, h0]
      · rename_i e1
        refine ⟨_, rfl, rfl, e1, ?_⟩
        have h0 : (x0.toUInt32 % 65536).toInt32 = x0 := h0
        show Value.int _ = _
        exact congrArg Value.int h0
      · cases hr
    · exact h.elim
  case lreturn =>
    obtain ⟨rfl, hr⟩ := len_of (and_tt hck).2
    have hr := of_decide_eq_true hr
    dsimp only [exI] at h
    split at h
    · rename_i x0
      intro H locs la k9 j9 hl hM hE hS hc hn
      exact HR .lreturn [.long x0] (some (.long x0)) pc la τ μ H locs k9 j9 (Or.inr (Or.inl ⟨rfl, x0, rfl, rfl, hr⟩)) hd h hM hE hS (by omega) (by omega)
    · exact h.elim
  case dreturn =>
    obtain ⟨rfl, hr⟩ := len_of (and_tt hck).2
    have hr := of_decide_eq_true hr
    dsimp only [exI] at h
    split at h
    · rename_i x0
      intro H locs la k9 j9 hl hM hE hS hc hn
      exact HR .dreturn [.double x0] (some (.double x0)) pc la τ μ H locs k9 j9 (Or.inr (Or.inr (Or.inl ⟨rfl, x0, rfl, rfl, hr⟩))) hd h hM hE hS (by omega) (by omega)
    · exact h.elim
  case areturn =>
    obtain ⟨rfl, hr⟩ := len_of (and_tt hck).2
    dsimp only [exI] at h
    split at hr
    · rename_i ty e1
      split at h
      · rename_i x0
        intro H locs la k9 j9 hl hM hE hS hc hn
        exact HR .areturn [.ref x0] (some (.ref x0)) pc la τ μ H locs k9 j9 (Or.inr (Or.inr (Or.inr (Or.inl ⟨rfl, .ref x0, ty, rfl, rfl, Or.inr ⟨x0, rfl⟩, e1, hr⟩)))) hd h hM hE hS (by omega) (by omega)
      · intro H locs la k9 j9 hl hM hE hS hc hn
        exact HR .areturn [.null] (some .null) pc la τ μ H locs k9 j9 (Or.inr (Or.inr (Or.inr (Or.inl ⟨rfl, .null, ty, rfl, rfl, Or.inl rfl, e1, hr⟩)))) hd h hM hE hS (by omega) (by omega)
      · exact h.elim
    · cases hr
  case return_ =>
    obtain ⟨rfl, hr⟩ := len_of (and_tt hck).2
    have hr := of_decide_eq_true hr
    dsimp only [exI] at h
    split at h
    · intro H locs la k9 j9 hl hM hE hS hc hn
      exact HR .return_ [] none pc la τ μ H locs k9 j9 (Or.inr (Or.inr (Or.inr (Or.inr ⟨rfl, rfl, rfl, hr⟩)))) hd h hM hE hS (by omega) (by omega)
    · exact h.elim
