/-! the start: words on a StringBuilder's superclass -/
theorem sb_priv {y : MethodName} {s : State} {args : Array Value} (hyc : y.cls = "java/lang/AbstractStringBuilder") (hlat : (Cond.selects "java/lang/StringBuilder" ⟨"java/lang/AbstractStringBuilder", "isLatin1", "()Z"⟩ ⟨"java/lang/AbstractStringBuilder", "isLatin1", "()Z"⟩).before args s = true) (hpriv : (Cond.privateMethod y).before args s = true) (hinst : (Cond.instanceMethod y).before args s = true) : (Cond.selects "java/lang/StringBuilder" y y).before args s = true := by
  obtain ⟨c, r, m, h1, h2, h3, h4, kk, h5, h6⟩ := Cond.selects_spec hlat
  obtain ⟨mk, methM, hnamed, hmethM, -, -⟩ := Cond.instanceMethod_spec hinst
  have hfound : s.methodFound? y.cls y.name y.desc = some mk := State.methodFound?_of_named hnamed (by rw [hyc]; decide)
  have e : mk.cls = m.cls := by
    have q1 := findClass_of_methodNamed hnamed
    have q2 := findClass_of_methodNamed h3
    rw [hyc] at q1
    exact Option.some.inj (q1.symm.trans q2)
  have hsel : selectMethod {} s.vm c mk = .method mk := selectMethod_private hmethM (Cond.privateMethod_at hpriv mk methM hnamed hmethM)
  simp only [Cond.before, Cond.holds, Cond.value, h1, hfound, hnamed, hsel, e, h5]
  simp
  exact h6
theorem sbm_ok : SBM.all (fun y => decide (y.cls = "java/lang/AbstractStringBuilder") && (decide (Cond.privateMethod y ∈ lw_tbl) && decide (Cond.instanceMethod y ∈ lw_tbl))) = true := by decide +kernel
theorem hts2 {args : Array Value} {s : State} (hts : ∀ w ∈ lw_tbl, w.before args s = true) : ∀ w ∈ lw_tb2, w.before args s = true := by
  intro w hw
  rcases List.mem_append.mp hw with hw | hw
  · exact hts w hw
  · obtain ⟨y, hy, rfl⟩ := List.mem_map.mp hw
    have q := List.all_eq_true.mp sbm_ok y hy
    simp only [Bool.and_eq_true, decide_eq_true_eq] at q
    exact sb_priv q.1 (hts _ (List.mem_of_getElem? (i := 1113) (by decide +kernel))) (hts _ q.2.1) (hts _ q.2.2)
