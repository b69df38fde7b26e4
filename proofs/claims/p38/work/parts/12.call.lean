/-! calls, and what comes back or is thrown -/
set_option maxRecDepth 20000 in
theorem room_ok {d' ml L F : Nat} (h1 : d' + 1 + 20 ≤ F) (h2 : 60 * (d' + 1) + 400 ≤ L) (h3 : ml ≤ 40) : d' + 20 + 1 ≤ F ∧ 8 + (ml + 11) + (60 * d' + 400) ≤ L := ⟨by omega, by omega⟩
theorem mrm_f {d c n : Nat} : (mrm d c n).frames = d + 20 := rfl
theorem mrm_l {d c n : Nat} : (mrm d c n).locals = 60 * d + 400 := rfl
theorem mrm_c {d c n : Nat} : (mrm d c n).cells = c := rfl
theorem mrm_s {d c n : Nat} : (mrm d c n).slots = n := rfl
def chkH (q : MRow) : Bool := q.2.2.2.2.1.isEmpty
theorem chkH_all : MT.all chkH = true := by decide +kernel
theorem tab_nil {i : Nat} {q : MRow} (hq : MT[i]? = some q) : q.2.2.2.2.1 = [] := List.isEmpty_iff.mp (List.all_eq_true.mp chkH_all q (mt_mem hq))
/-- what a frame owes where a method throws and does not catch -/
def HXp (p : Program) (l : Launch) (e : Env) (R : Room) (s : State) (m : MethodId) (args : Array Value) (below : List Frame) (meth : Method) (cd : Code) (D : va_G) (G : Nat → ClassId) (τ0 : MTau) (C0 S0 : Nat) (q : MRow) (Qm : MPost) (Qf : State → Prop) : Prop :=
  ∀ (a : Nat) (τ : MTau) (μ : MMu) (H : Heap) (locs : List Loc) (k j pc : Nat) (la : Array Slot) (st : List Value) (qq : Nat) (ce : Cell), q.2.2.2.2.1 = [] → a < 3 → Qm (.inr (excN a)) τ μ → MRep D G τ μ H → mExt τ0 τ s.heap.size → va_S (mA τ0 s.heap.size) s.heap H locs → H[qq]? = some ce → ce.vm = .none → s.vm.findClass (excN a) = some ce.cls → k ≤ C0 → j ≤ S0 → vx_W p l e R s m args below meth cd H locs k j Qf (F0 m pc la st) qq
set_option maxHeartbeats 4000000 in
theorem snd_back {p : Program} {l : Launch} {e : Env} {R : Room} {s : State} {m : MethodId} {args : Array Value} {below : List Frame} {meth : Method} {cd : Code} {E : MEnv} {D : va_G} {G : Nat → ClassId} {τ0 : MTau} {d C0 S0 : Nat} {q : MRow} {Qf : State → Prop} (F : FX p l R s m args meth cd E D G τ0 d C0 S0 q) {i pc : Nat} (hq : MT[i]? = some q) {Qm : MPost} (HX : HXp p l e R s m args below meth cd D G τ0 C0 S0 q Qm Qf) {ls : MLoc} {τ : MTau} {H : Heap} {locs : List Loc} {la : Array Slot} {k j c1 n1 c2 n2 : Nat} {rest st0 : List Value} {aa : Array Value}
    (hr : vx_Run p l e R s m args below meth cd H locs k j c1 n1 (F0 m pc la st0) rest (mQc D G (xback (hnd i pc) Qm (MWp p l e R s m args below meth cd D G τ0 q.2.2.1 C0 S0 Qf) (pc + 3) ls rest c2 n2) τ H.size aa) (mXC D G (xback (hnd i pc) Qm (MWp p l e R s m args below meth cd D G τ0 q.2.2.1 C0 S0 Qf) (pc + 3) ls rest c2 n2) τ H.size) (mA τ H.size))
    (hl : lv_has la q.2.2.1 ls) (hE : mExt τ0 τ s.heap.size) (hS : va_S (mA τ0 s.heap.size) s.heap H locs) (hc : k + (c1 + c2) = C0) (hn : j + (n1 + n2) = S0) : W p l e R s m args below meth cd H locs k j Qf (F0 m pc la st0) := by
  obtain ⟨hx, hb, hml, hown, hts, hK, hEnv, hRf, hRl, hCc, hSs, hinit, htab, hfl⟩ := F
  intro T hT X
  have hAA := hE.sub hS.1
  rcases hr T hT X with ⟨v, st₀, t, T', L, h0, X', hL, e1, e2, ⟨⟨v', τ', μ', hv, hQ, hM', hE'⟩, hF⟩, st⟩ | ⟨qq, st₀, t, T', L, E', ce, h0, X', hL, e1, e2, ⟨⟨τ', μ', a, ha, hEa, hQ, hM', hE'⟩, hF⟩, hce, hcv, hcl, st⟩
  · cases hv
    obtain ⟨k1, k2, k3⟩ := vx_keep h0 e1 hS (fun q _ h => hAA q h) hAA hL hF
    have hQ : MWp p l e R s m args below meth cd D G τ0 q.2.2.1 C0 S0 Qf (pc + 3) ls (v.toList ++ rest) τ' c2 n2 μ' := hQ
    obtain ⟨t2, a1, b1⟩ := hQ T'.heap (locs ++ L) la (k + c1) (j + n1) hl (by rw [e1]; exact hM') (hE.trans hE' hS.1) k3 (by omega) (by omega) T' rfl X'
    exact ⟨t2, st t2 a1, b1⟩
  · subst hEa
    obtain ⟨k1, k2, k3⟩ := vx_keep h0 e1 hS (fun q _ h => hAA q h) hAA hL hF
    have hQ : Qm (.inr (excN a)) τ' μ' := hQ
    have hH : MRep D G τ' μ' T'.heap := by rw [e1]; exact hM'
    have hce : T'.heap[qq]? = some ce := by rw [e1]; exact hce
    have key : vx_W p l e R s m args below meth cd T'.heap (locs ++ L) (k + c1) (j + n1) Qf (F0 m pc la rest) qq := HX a τ' μ' T'.heap (locs ++ L) (k + c1) (j + n1) pc la rest qq ce (tab_nil hq) ha hQ hH (hE.trans hE' hS.1) k3 hce hcv hcl (by omega) (by omega)
    obtain ⟨t2, a1, b1⟩ := key T' rfl X'
    exact ⟨t2, st.trans a1, b1⟩
theorem cat_le (v : Value) : v.category ≤ 2 := by cases v <;> first | exact Nat.le_refl 2 | exact Nat.le_succ 1
theorem cat_sum : ∀ r : List Value, (r.map fun v => v.category).sum ≤ 2 * r.length
  | [] => Nat.zero_le _
  | v :: r => by
    have h1 := cat_le v
    have h2 := cat_sum r
    simp only [List.map_cons, List.sum_cons, List.length_cons]
    omega
theorem rest_room {r : List Value} (h : r.length ≤ 4) : 2 * 0 + (r.map fun v => v.category).sum ≤ 8 := by
  have := cat_sum r
  omega
theorem popN_eq : ∀ (b : Nat) (acc st As r : List Value), popN b acc st = some (As, r) → ∃ Bs, As = Bs ++ acc ∧ Bs.length = b ∧ st = Bs.reverse ++ r
  | 0, acc, st, As, r, h => by
    cases h
    exact ⟨[], rfl, rfl, rfl⟩
  | b + 1, acc, [], As, r, h => by cases h
  | b + 1, acc, v :: st, As, r, h => by
    obtain ⟨Bs, h1, h2, h3⟩ := popN_eq b (v :: acc) st As r h
    refine ⟨Bs ++ [v], by rw [h1]; simp, by simp [h2], by rw [h3]; simp⟩
theorem popN_nil {b : Nat} {st As r : List Value} (h : popN b [] st = some (As, r)) : As.length = b ∧ st = As.reverse ++ r := by
  obtain ⟨Bs, h1, h2, h3⟩ := popN_eq b [] st As r h
  rw [List.append_nil] at h1
  subst h1
  exact ⟨h2, h3⟩
/-- what a program decided of a callee's row -/
theorem row_ok {y : MRow} {a : Nat} (hy : MT[a]? = some y) (ha : a < 257) (hk : y.2.2.2.2.2.2.1 ≠ 4) : mcw y ∈ GWL ∧ Cond.initialized y.1.cls ∈ GWL ∧ (y.1.cls ≠ "java/lang/invoke/MethodHandle" ∧ y.1.cls ≠ "java/lang/invoke/VarHandle") ∧ (parseMethodDescriptor y.1.desc).map (fun d => d.parameters.length) = some y.2.2.2.2.2.1 ∧ y.2.2.1 ≤ 40 ∧ plainFor y.1 = true := by
  have h := chkR_at (mt_mem hy)
  unfold chkR at h
  rcases Bool.or_eq_true_iff.mp h with h | h
  · exact absurd (by simpa using h) hk
  · simp only [Bool.and_eq_true, decide_eq_true_eq] at h
    exact ⟨cw_all y (mt_mem hy) hk, isGW_in h.1.1.1.1.1.1, ⟨h.1.1.1.1.1.2, h.1.1.1.1.2⟩, h.1.1.1.2, h.1.1.2, h.1.2⟩
theorem row_kind {y : MRow} {a : Nat} (hy : MT[a]? = some y) (hk : y.2.2.2.2.2.2.1 ≠ 4) : (match y.2.2.2.2.2.2.1 with
      | 0 => isGW y.2.2.2.2.2.2.2.2.1 (.static y.1) && y.2.2.2.2.1.isEmpty
      | 3 => isGW y.2.2.2.2.2.2.2.2.1 (.static y.1) && !y.2.2.2.2.1.isEmpty
      | 1 => isGW y.2.2.2.2.2.2.2.2.1 (.instanceMethod y.1) && isGW y.2.2.2.2.2.2.2.2.2.1 (.selects y.1.cls y.1 y.1) && y.2.2.2.2.1.isEmpty
      | 5 => isGW y.2.2.2.2.2.2.2.2.1 (.instanceMethod y.1) && isGW y.2.2.2.2.2.2.2.2.2.1 (.selects "java/lang/StringBuilder" y.1 y.1) && y.2.2.2.2.1.isEmpty
      | 7 => isGW y.2.2.2.2.2.2.2.2.1 (.instanceMethod y.1) && isGW y.2.2.2.2.2.2.2.2.2.1 (.selects "java/lang/StringBuilder" lenN y.1) && y.2.2.2.2.1.isEmpty && decide (y.1.desc = "()I")
      | 6 => isGW y.2.2.2.2.2.2.2.2.1 (.instanceMethod y.1) && isGW y.2.2.2.2.2.2.2.2.2.1 (.sameMethod y.1.cls y.1.cls y.1.name y.1.desc) && y.2.2.2.2.1.isEmpty && decide (y.1.name ≠ "<init>") && decide (y.1.cls = "java/lang/AbstractStringBuilder")
      | 2 => isGW y.2.2.2.2.2.2.2.2.1 (.instanceMethod y.1) && decide (y.1.name = "<init>") && decide (y.2.2.2.1 = none) && y.2.2.2.2.1.isEmpty
      | _ => false) = true := by
  have h := chkR_at (mt_mem hy)
  unfold chkR at h
  rcases Bool.or_eq_true_iff.mp h with h | h
  · exact absurd (by simpa using h) hk
  · exact (and_tt h).2
theorem mcw_nil {y : MRow} (h : y.2.2.2.2.1 = []) : mcw y = .code y.1 y.2.1 y.2.2.1 y.2.2.2.1 := by unfold mcw; rw [h]
theorem mcw_cons {y : MRow} (h : y.2.2.2.2.1 ≠ []) : mcw y = .codeWith y.1 y.2.1 y.2.2.1 y.2.2.2.1 y.2.2.2.2.1 := by
  unfold mcw
  cases h9 : y.2.2.2.2.1 with
  | nil => exact absurd h9 h
  | cons z r => rfl
/-- a call whose callee's contract is had, by its kind -/
def XRun (p : Program) (l : Launch) (e : Env) (R : Room) (s : State) (m : MethodId) (args : Array Value) (below : List Frame) (meth : Method) (cd : Code) (D : va_G) (G : Nat → ClassId) (H : Heap) (locs : List Loc) (k j c1 n1 : Nat) (g : JFrame) (rest : List Value) (Q' : MPost) (τ : MTau) (aa : Array Value) : Prop :=
  vx_Run p l e R s m args below meth cd H locs k j c1 n1 g rest (mQc D G Q' τ H.size aa) (mXC D G Q' τ H.size) (mA τ H.size)
set_option maxHeartbeats 4000000 in
theorem run_V {p : Program} {l : Launch} {e : Env} {R : Room} {s : State} {m : MethodId} {args : Array Value} {below : List Frame} {meth : Method} {cd : Code} {E : MEnv} {D : va_G} {G : Nat → ClassId} {τ0 : MTau} {d C0 S0 : Nat} {q : MRow} {Qf : State → Prop} (F : FX p l R s m args meth cd E D G τ0 d C0 S0 q) {d' : Nat} (hd' : d = d' + 1) (hSnd : Snd d') {pc : Nat} {H : Heap} {locs : List Loc} {la : Array Slot} {k j c1 n1 : Nat} {ls : MLoc} {τ : MTau} {μ : MMu} {a : Nat} {y : MRow} (hy : MT[a]? = some y) (ha : a < 257) {As rest : List Value} {Q' : MPost} {idx : Nat} {o r : Nat} (hk : (y.2.2.2.2.2.2.1 = 1 ∧ clN r = y.1.cls) ∨ (y.2.2.2.2.2.2.1 = 5 ∧ r = 11)) (hw : mwp E d' a (.ref o :: As) τ c1 n1 μ Q') (hlen : As.length = y.2.2.2.2.2.1) (hrc : recv E τ o r) (hlink : Cond.methodLink q.1.cls idx y.1 ∈ GWL ∨ ∃ hh, Cond.methodLinkNest q.1.cls idx y.1 hh ∈ NWL) (hdg : decode q.2.1 pc = .ok (.invokevirtual idx, 3)) (hl : lv_has la q.2.2.1 ls) (hM : MRep D G τ μ H) (hE : mExt τ0 τ s.heap.size) (hS : va_S (mA τ0 s.heap.size) s.heap H locs) (hc : k + c1 ≤ C0) (hn : j + n1 ≤ S0) (h4 : rest.length ≤ 4) : XRun p l e R s m args below meth cd D G H locs k j c1 n1 (F0 m pc la (As.reverse ++ .ref o :: rest)) rest Q' τ (.ref o :: As).toArray := by
  obtain ⟨hx, hb, hml, hown, hts, hK, hEnv, hRf, hRl, hCc, hSs, hinit, htab, hfl⟩ := F
  subst hd'
  have hM' := hSnd a y hy ha E (.ref o :: As) τ c1 n1 μ Q' hw l D G H.size hfl
  have hk4 : y.2.2.2.2.2.2.1 ≠ 4 := by rcases hk with ⟨h, -⟩ | ⟨h, -⟩ <;> rw [h] <;> decide
  obtain ⟨r1, r2, r3, r4, r5, r6⟩ := row_ok hy ha hk4
  have rk := row_kind hy hk4
  obtain ⟨rk1, rk2, rk3⟩ : isGW y.2.2.2.2.2.2.2.2.1 (.instanceMethod y.1) = true ∧ isGW y.2.2.2.2.2.2.2.2.2.1 (.selects (clN r) y.1 y.1) = true ∧ y.2.2.2.2.1 = [] := by
    rcases hk with ⟨hk, hcl⟩ | ⟨hk, rfl⟩
    · rw [hk] at rk
      simp only [Bool.and_eq_true, List.isEmpty_iff] at rk
      rw [hcl]
      exact ⟨rk.1.1, rk.1.2, rk.2⟩
    · rw [hk] at rk
      simp only [Bool.and_eq_true, List.isEmpty_iff] at rk
      exact ⟨rk.1.1, rk.1.2, rk.2⟩
  have hcode := mcw_nil rk3
  obtain ⟨cell, g1, g2, g3⟩ := rcv_now hK hEnv hS hM hrc
  have hpre : PreV s H (clN r) o (mPc E D G τ μ H.size (.ref o :: As)) As := ⟨mPc.blind, ⟨cell, g1, g2, g3⟩, fun U hU hW => pc_now hK hEnv hE hS hM hU hW⟩
  have hws : mws y = Cond.code y.1 y.2.1 y.2.2.1 y.2.2.2.1 :: GWL := by unfold mws; rw [hcode]
  have hroom : (mrm d' c1 n1).frames + 1 ≤ R.frames ∧ 8 + (y.2.2.1 + 11) + (mrm d' c1 n1).locals ≤ R.locals := room_ok hRf hRl r5
  rcases hlink with hw9 | ⟨hh, hw9⟩
  · exact vx_runV ⟨hx, hb, hml, hown, hts⟩ hM' ⟨callB_of _ hts (mws_good r1) hws rfl rfl (hts _ r2) (hts _ hw9) ⟨r3.1, r3.2, r4⟩ hroom, hts _ (isGW_in rk1), hts _ (isGW_in rk2)⟩ hpre rfl hlen hl.1 rfl (rest_room h4) hdg ⟨by omega, by omega⟩
  · exact vx_runVN ⟨hx, hb, hml, hown, hts⟩ hM' ⟨va_cnB _ hts (mws_good r1) hws rfl rfl (hK.2.1 _ hw9) (hts _ r2) ⟨r3.1, r3.2, r4⟩ hroom, hts _ (isGW_in rk1), hts _ (isGW_in rk2)⟩ hpre rfl hlen hl.1 rfl (rest_room h4) hdg ⟨by omega, by omega⟩
set_option maxHeartbeats 4000000 in
theorem run_S {p : Program} {l : Launch} {e : Env} {R : Room} {s : State} {m : MethodId} {args : Array Value} {below : List Frame} {meth : Method} {cd : Code} {E : MEnv} {D : va_G} {G : Nat → ClassId} {τ0 : MTau} {d C0 S0 : Nat} {q : MRow} {Qf : State → Prop} (F : FX p l R s m args meth cd E D G τ0 d C0 S0 q) {d' : Nat} (hd' : d = d' + 1) (hSnd : Snd d') {pc : Nat} {H : Heap} {locs : List Loc} {la : Array Slot} {k j c1 n1 : Nat} {ls : MLoc} {τ : MTau} {μ : MMu} {a : Nat} {y : MRow} (hy : MT[a]? = some y) (ha : a < 257) {As rest : List Value} {Q' : MPost} {idx : Nat} (hk : y.2.2.2.2.2.2.1 = 0 ∨ (y.2.2.2.2.2.2.1 = 3 ∧ Cond.methodLink q.1.cls idx y.1 ∈ GWL)) (hw : mwp E d' a As τ c1 n1 μ Q') (hlen : As.length = y.2.2.2.2.2.1) (hlink : Cond.methodLink q.1.cls idx y.1 ∈ GWL ∨ ∃ hh, Cond.methodLinkNest q.1.cls idx y.1 hh ∈ NWL) (hdg : decode q.2.1 pc = .ok (.invokestatic idx, 3)) (hl : lv_has la q.2.2.1 ls) (hM : MRep D G τ μ H) (hE : mExt τ0 τ s.heap.size) (hS : va_S (mA τ0 s.heap.size) s.heap H locs) (hc : k + c1 ≤ C0) (hn : j + n1 ≤ S0) (h4 : rest.length ≤ 4) : XRun p l e R s m args below meth cd D G H locs k j c1 n1 (F0 m pc la (As.reverse ++ rest)) rest Q' τ As.toArray := by
  obtain ⟨hx, hb, hml, hown, hts, hK, hEnv, hRf, hRl, hCc, hSs, hinit, htab, hfl⟩ := F
  subst hd'
  have hM' := hSnd a y hy ha E As τ c1 n1 μ Q' hw l D G H.size hfl
  have hk4 : y.2.2.2.2.2.2.1 ≠ 4 := by rcases hk with h | ⟨h, -⟩ <;> rw [h] <;> decide
  obtain ⟨r1, r2, r3, r4, r5, r6⟩ := row_ok hy ha hk4
  have rk := row_kind hy hk4
  have hpre : PreS s H (mPc E D G τ μ H.size As) As := ⟨mPc.blind, fun U hU hW => pc_now hK hEnv hE hS hM hU hW⟩
  have hroom : (mrm d' c1 n1).frames + 1 ≤ R.frames ∧ 8 + (y.2.2.1 + 11) + (mrm d' c1 n1).locals ≤ R.locals := room_ok hRf hRl r5
  rcases hk with hk | ⟨hk, hw9⟩
  · rw [hk] at rk
    simp only [Bool.and_eq_true, List.isEmpty_iff] at rk
    obtain ⟨rk1, rk3⟩ := rk
    have hcode := mcw_nil rk3
    have hws : mws y = Cond.code y.1 y.2.1 y.2.2.1 y.2.2.2.1 :: GWL := by unfold mws; rw [hcode]
    rcases hlink with hw9 | ⟨hh, hw9⟩
    · exact vx_runS ⟨hx, hb, hml, hown, hts⟩ hM' ⟨callB_of _ hts (mws_good r1) hws rfl rfl (hts _ r2) (hts _ hw9) ⟨r3.1, r3.2, r4⟩ hroom, hts _ (isGW_in rk1)⟩ hpre rfl hlen hl.1 rfl (rest_room h4) hdg ⟨by omega, by omega⟩
    · exact vx_runSN ⟨hx, hb, hml, hown, hts⟩ hM' ⟨va_cnB _ hts (mws_good r1) hws rfl rfl (hK.2.1 _ hw9) (hts _ r2) ⟨r3.1, r3.2, r4⟩ hroom, hts _ (isGW_in rk1), trivial⟩ hpre rfl hlen hl.1 rfl (rest_room h4) hdg ⟨by omega, by omega⟩
  · rw [hk] at rk
    simp only [Bool.and_eq_true, Bool.not_eq_true', List.isEmpty_eq_false_iff] at rk
    obtain ⟨rk1, rk3⟩ := rk
    have hcode := mcw_cons rk3
    have hin : Cond.codeWith y.1 y.2.1 y.2.2.1 y.2.2.2.1 y.2.2.2.2.1 ∈ mws y := by unfold mws; rw [hcode]; exact List.mem_cons_self
    refine vx_runSX (hh := y.2.2.2.2.1) (bytes := y.2.1) (maxL := y.2.2.1) (ret := y.2.2.2.1) ⟨hx, hb, hml, hown, hts⟩ hM' ⟨⟨rfl, rfl, hroom.1, hroom.2, pay_in hts (mws_good r1), hin⟩, hts _ (by rw [← hcode]; exact r1), hts _ r2, ⟨r3.1, r3.2⟩, fun sig h => ?_, hts _ hw9, hts _ (isGW_in rk1)⟩ hpre rfl hlen hl.1 rfl (rest_room h4) hdg ⟨by omega, by omega⟩
    rw [h] at r4
    exact (Option.some.inj r4).symm
set_option maxHeartbeats 4000000 in
theorem run_I {p : Program} {l : Launch} {e : Env} {R : Room} {s : State} {m : MethodId} {args : Array Value} {below : List Frame} {meth : Method} {cd : Code} {E : MEnv} {D : va_G} {G : Nat → ClassId} {τ0 : MTau} {d C0 S0 : Nat} {q : MRow} {Qf : State → Prop} (F : FX p l R s m args meth cd E D G τ0 d C0 S0 q) {d' : Nat} (hd' : d = d' + 1) (hSnd : Snd d') {pc : Nat} {H : Heap} {locs : List Loc} {la : Array Slot} {k j c1 n1 : Nat} {ls : MLoc} {τ : MTau} {μ : MMu} {a : Nat} {y : MRow} (hy : MT[a]? = some y) (ha : a < 257) {As rest : List Value} {Q' : MPost} {idx : Nat} {o : Nat} (hk : y.2.2.2.2.2.2.1 = 2) (hw : mwp E d' a (.ref o :: As) τ c1 n1 μ Q') (hlen : As.length = y.2.2.2.2.2.1) (hlink : Cond.methodLink q.1.cls idx y.1 ∈ GWL ∨ ∃ hh, Cond.methodLinkNest q.1.cls idx y.1 hh ∈ NWL) (hdg : decode q.2.1 pc = .ok (.invokespecial idx, 3)) (hl : lv_has la q.2.2.1 ls) (hM : MRep D G τ μ H) (hE : mExt τ0 τ s.heap.size) (hS : va_S (mA τ0 s.heap.size) s.heap H locs) (hc : k + c1 ≤ C0) (hn : j + n1 ≤ S0) (h4 : rest.length ≤ 4) : XRun p l e R s m args below meth cd D G H locs k j c1 n1 (F0 m pc la (As.reverse ++ .ref o :: rest)) rest Q' τ (.ref o :: As).toArray := by
  obtain ⟨hx, hb, hml, hown, hts, hK, hEnv, hRf, hRl, hCc, hSs, hinit, htab, hfl⟩ := F
  subst hd'
  have hM' := hSnd a y hy ha E (.ref o :: As) τ c1 n1 μ Q' hw l D G H.size hfl
  obtain ⟨r1, r2, r3, r4, r5, r6⟩ := row_ok hy ha (by rw [hk]; decide)
  have rk := row_kind hy (by rw [hk]; decide)
  rw [hk] at rk
  simp only [Bool.and_eq_true, List.isEmpty_iff, decide_eq_true_eq] at rk
  obtain ⟨⟨⟨rk1, rk2⟩, rkr⟩, rk3⟩ := rk
  have hcode := mcw_nil rk3
  rw [rkr] at hcode
  have hpre : PreS s H (mPc E D G τ μ H.size (.ref o :: As)) (.ref o :: As) := ⟨mPc.blind, fun U hU hW => pc_now hK hEnv hE hS hM hU hW⟩
  have hws : mws y = Cond.code y.1 y.2.1 y.2.2.1 none :: GWL := by unfold mws; rw [hcode]
  have hroom : (mrm d' c1 n1).frames + 1 ≤ R.frames ∧ 8 + (y.2.2.1 + 11) + (mrm d' c1 n1).locals ≤ R.locals := room_ok hRf hRl r5
  rcases hlink with hw9 | ⟨hh, hw9⟩
  · exact vx_runI ⟨hx, hb, hml, hown, hts⟩ hM' ⟨callB_of _ hts (mws_good r1) hws rfl rfl (hts _ r2) (hts _ hw9) ⟨r3.1, r3.2, r4⟩ hroom, rk2, hts _ (isGW_in rk1)⟩ hpre rfl hlen hl.1 rfl (rest_room h4) hdg ⟨by omega, by omega⟩
  · exact vx_runIN ⟨hx, hb, hml, hown, hts⟩ hM' ⟨va_cnB _ hts (mws_good r1) hws rfl rfl (hK.2.1 _ hw9) (hts _ r2) ⟨r3.1, r3.2, r4⟩ hroom, rk2, hts _ (isGW_in rk1)⟩ hpre rfl hlen hl.1 rfl (rest_room h4) hdg ⟨by omega, by omega⟩
theorem good6 {y : MRow} {ws6 : List Cond} (h : ∀ w ∈ ws6, w ∈ GWL) (hy : mcw y ∈ GWL) : GoodIn GWL (ws6 ++ mws y) := by
  intro w hw
  rcases List.mem_append.mp hw with h9 | h9
  · exact ⟨h _ h9, good_of_word (List.mem_filter.mp (h _ h9)).2⟩
  · exact mws_good hy w h9
theorem sbc_at {D : va_G} {G : Nat → ClassId} {s : State} (hK : KOK D G s) : ClassAt s "java/lang/StringBuilder" (D.1 11) := (hK.1.1 11 _ rfl).2
theorem len_in1 : Cond.sameMethod lenN.cls "java/lang/AbstractStringBuilder" lenN.name lenN.desc ∈ GWL := gwl_of (k := 1342) (by decide +kernel) rfl
theorem len_in2 : Cond.instanceMethod ⟨"java/lang/AbstractStringBuilder", lenN.name, lenN.desc⟩ ∈ GWL := gwl_of (k := 1341) (by decide +kernel) rfl
theorem sup_in : Cond.superclass "java/lang/StringBuilder" "java/lang/AbstractStringBuilder" ∈ GWL := gwl_of (k := 1072) (by decide +kernel) rfl
theorem asb_ini : Cond.initialized "java/lang/AbstractStringBuilder" ∈ GWL := gwl_of (k := 38) (by decide +kernel) rfl
set_option maxHeartbeats 4000000 in
theorem run_U {p : Program} {l : Launch} {e : Env} {R : Room} {s : State} {m : MethodId} {args : Array Value} {below : List Frame} {meth : Method} {cd : Code} {E : MEnv} {D : va_G} {G : Nat → ClassId} {τ0 : MTau} {d C0 S0 : Nat} {q : MRow} {Qf : State → Prop} (F : FX p l R s m args meth cd E D G τ0 d C0 S0 q) {d' : Nat} (hd' : d = d' + 1) (hSnd : Snd d') {pc : Nat} {H : Heap} {locs : List Loc} {la : Array Slot} {k j c1 n1 : Nat} {ls : MLoc} {τ : MTau} {μ : MMu} {a : Nat} {y : MRow} (hy : MT[a]? = some y) (ha : a < 257) {As rest : List Value} {Q' : MPost} {idx : Nat} {o : Nat} (hk : y.2.2.2.2.2.2.1 = 7) (hw : mwp E d' a (.ref o :: As) τ c1 n1 μ Q') (hlen : As.length = y.2.2.2.2.2.1) (hrc : recv E τ o 11) (hlink : Cond.methodLink q.1.cls idx lenN ∈ GWL) (hdg : decode q.2.1 pc = .ok (.invokevirtual idx, 3)) (hl : lv_has la q.2.2.1 ls) (hM : MRep D G τ μ H) (hE : mExt τ0 τ s.heap.size) (hS : va_S (mA τ0 s.heap.size) s.heap H locs) (hc : k + c1 ≤ C0) (hn : j + n1 ≤ S0) (h4 : rest.length ≤ 4) : XRun p l e R s m args below meth cd D G H locs k j c1 n1 (F0 m pc la (As.reverse ++ .ref o :: rest)) rest Q' τ (.ref o :: As).toArray := by
  obtain ⟨hx, hb, hml, hown, hts, hK, hEnv, hRf, hRl, hCc, hSs, hinit, htab, hfl⟩ := F
  subst hd'
  have hM' := hSnd a y hy ha E (.ref o :: As) τ c1 n1 μ Q' hw l D G H.size hfl
  have hk4 : y.2.2.2.2.2.2.1 ≠ 4 := by rw [hk]; decide
  obtain ⟨r1, r2, r3, r4, r5, r6⟩ := row_ok hy ha hk4
  have rk := row_kind hy hk4
  rw [hk] at rk
  simp only [Bool.and_eq_true, List.isEmpty_iff, decide_eq_true_eq] at rk
  obtain ⟨⟨⟨rk1, rk2⟩, rk3⟩, rkd⟩ := rk
  have hcode := mcw_nil rk3
  obtain ⟨cell, g1, g2, g3⟩ := rcv_now hK hEnv hS hM hrc
  have hpre : PreV s H "java/lang/StringBuilder" o (mPc E D G τ μ H.size (.ref o :: As)) As := ⟨mPc.blind, ⟨cell, g1, g2, g3⟩, fun U hU hW => pc_now hK hEnv hE hS hM hU hW⟩
  have hws : mws y = Cond.code y.1 y.2.1 y.2.2.1 y.2.2.2.1 :: GWL := by unfold mws; rw [hcode]
  have hroom : (mrm d' c1 n1).frames + 1 ≤ R.frames ∧ 8 + (y.2.2.1 + 11) + (mrm d' c1 n1).locals ≤ R.locals := room_ok hRf hRl r5
  have hl6 : ∀ w ∈ ([.methodLink q.1.cls idx lenN, .sameMethod lenN.cls "java/lang/AbstractStringBuilder" lenN.name lenN.desc, .instanceMethod ⟨"java/lang/AbstractStringBuilder", lenN.name, lenN.desc⟩, .selects "java/lang/StringBuilder" lenN y.1, .instanceMethod y.1, .initialized y.1.cls] : List Cond), w ∈ GWL := by
    intro w hw
    simp only [List.mem_cons, List.not_mem_nil, or_false] at hw
    rcases hw with rfl | rfl | rfl | rfl | rfl | rfl
    · exact hlink
    · exact len_in1
    · exact len_in2
    · exact isGW_in rk2
    · exact isGW_in rk1
    · exact r2
  rw [rkd] at r4
  exact vx_runU ⟨hx, hb, hml, hown, hts⟩ hM' (va_cwO (own := q.1.cls) (C := "java/lang/StringBuilder") (owner := "java/lang/AbstractStringBuilder") (x := lenN) _ hts (good6 hl6 r1) hws rfl rfl (h0 := cw_144) ⟨by decide, by decide, r4⟩ hroom) hpre rfl hlen hl.1 rfl (rest_room h4) hdg ⟨by omega, by omega⟩
set_option maxHeartbeats 4000000 in
theorem run_X {p : Program} {l : Launch} {e : Env} {R : Room} {s : State} {m : MethodId} {args : Array Value} {below : List Frame} {meth : Method} {cd : Code} {E : MEnv} {D : va_G} {G : Nat → ClassId} {τ0 : MTau} {d C0 S0 : Nat} {q : MRow} {Qf : State → Prop} (F : FX p l R s m args meth cd E D G τ0 d C0 S0 q) {d' : Nat} (hd' : d = d' + 1) (hSnd : Snd d') {pc : Nat} {H : Heap} {locs : List Loc} {la : Array Slot} {k j c1 n1 : Nat} {ls : MLoc} {τ : MTau} {μ : MMu} {a : Nat} {y : MRow} (hy : MT[a]? = some y) (ha : a < 257) {As rest : List Value} {Q' : MPost} {idx : Nat} {o : Nat} (hk : y.2.2.2.2.2.2.1 = 6) (hq9 : q.1.cls = "java/lang/StringBuilder") (hw : mwp E d' a (.ref o :: As) τ c1 n1 μ Q') (hlen : As.length = y.2.2.2.2.2.1) (hrc : τ o = some (.inl 11)) (hlink : Cond.methodLink q.1.cls idx y.1 ∈ GWL) (hdg : decode q.2.1 pc = .ok (.invokespecial idx, 3)) (hl : lv_has la q.2.2.1 ls) (hM : MRep D G τ μ H) (hE : mExt τ0 τ s.heap.size) (hS : va_S (mA τ0 s.heap.size) s.heap H locs) (hc : k + c1 ≤ C0) (hn : j + n1 ≤ S0) (h4 : rest.length ≤ 4) : XRun p l e R s m args below meth cd D G H locs k j c1 n1 (F0 m pc la (As.reverse ++ .ref o :: rest)) rest Q' τ (.ref o :: As).toArray := by
  obtain ⟨hx, hb, hml, hown, hts, hK, hEnv, hRf, hRl, hCc, hSs, hinit, htab, hfl⟩ := F
  subst hd'
  have hM' := hSnd a y hy ha E (.ref o :: As) τ c1 n1 μ Q' hw l D G H.size hfl
  have hk4 : y.2.2.2.2.2.2.1 ≠ 4 := by rw [hk]; decide
  obtain ⟨r1, r2, r3, r4, r5, r6⟩ := row_ok hy ha hk4
  have rk := row_kind hy hk4
  rw [hk] at rk
  simp only [Bool.and_eq_true, List.isEmpty_iff, decide_eq_true_eq] at rk
  obtain ⟨⟨⟨⟨rk1, rk2⟩, rk3⟩, rkn⟩, rkc⟩ := rk
  have hcode := mcw_nil rk3
  obtain ⟨cell, g1, g2, g3⟩ := rcv_now (r := 11) hK hEnv hS hM (Or.inl hrc)
  have hpre : PreV s H "java/lang/StringBuilder" o (mPc E D G τ μ H.size (.ref o :: As)) As := ⟨mPc.blind, ⟨cell, g1, g2, g3⟩, fun U hU hW => pc_now hK hEnv hE hS hM hU hW⟩
  have hws : mws y = Cond.code y.1 y.2.1 y.2.2.1 y.2.2.2.1 :: GWL := by unfold mws; rw [hcode]
  have hroom : (mrm d' c1 n1).frames + 1 ≤ R.frames ∧ 8 + (y.2.2.1 + 11) + (mrm d' c1 n1).locals ≤ R.locals := room_ok hRf hRl r5
  have hl6 : ∀ w ∈ ([.methodLink q.1.cls idx y.1, .sameMethod y.1.cls y.1.cls y.1.name y.1.desc, .superclass q.1.cls y.1.cls, .instanceMethod y.1, .initialized y.1.cls] : List Cond), w ∈ GWL := by
    intro w hw
    simp only [List.mem_cons, List.not_mem_nil, or_false] at hw
    rcases hw with rfl | rfl | rfl | rfl | rfl
    · exact hlink
    · exact isGW_in rk2
    · rw [hq9, rkc]; exact sup_in
    · exact isGW_in rk1
    · exact r2
  exact vx_runSU (C := "java/lang/StringBuilder") (sbc_at hK) ⟨hx, hb, hml, hown, hts⟩ hM' (va_cwSU _ hts (good6 hl6 r1) hws rfl rfl ⟨rkn, r4⟩ hroom) hpre rfl hlen hl.1 rfl (rest_room h4) hdg ⟨by omega, by omega⟩
