/-! the start of the law: classes, strings, and the walk of its body by the small machine -/
theorem gwl_sub {w : Cond} (h : w ∈ GWL) : w ∈ lw_tbl := (List.mem_filter.mp h).1
theorem kok_at {s : State} {b : Nat} (hts : ∀ w ∈ lw_tbl, w.before #[Value.ref b] s = true) (hgv : (Jvm.Cond.and given_1 narrow_1).before #[Value.ref b] s = true) : ∃ (D : va_G) (G : Nat → ClassId), KOK D G s := by
  have hB : ∀ (k : Nat) {w : Cond}, nwB[k]? = some w → w.before #[Value.ref b] s = true := fun k w hw => flat_of_before _ hgv _ (nwB_in k hw)
  have htg : ∀ w ∈ GWL, w.before #[Value.ref b] s = true := fun w hw => hts w (gwl_sub hw)
  have h0 : vwCl[0]? = some (RX0, TX0, 11) := rfl
  obtain ⟨c0, i0, k0⟩ := u_known (ws := GWL) htg (cls_in h0) (htg _ (cls_inst h0))
  have hc : ∀ c : Nat, ∃ x : ClassId × (Nat → Nat), ∀ q : vw_C, vwCl[c]? = some q → u_Kn s q.1 q.2.1 q.2.2 x.1 x.2 := by
    intro c
    cases hq : vwCl[c]? with
    | none => exact ⟨(c0, i0), fun q h => by cases h⟩
    | some q =>
      obtain ⟨c1, i1, k1⟩ := u_known (ws := GWL) htg (cls_in hq) (htg _ (cls_inst hq))
      exact ⟨(c1, i1), fun q' h => by cases h; exact k1⟩
  obtain ⟨dx, hdx⟩ := Classical.axiomOfChoice hc
  have arr : ∀ ty : FieldType, (Cond.arrayClass ty).before #[Value.ref b] s = true → ∃ cA : ClassId, ArrOfT s cA ty ∧ s.vm.findClass ("[" ++ ty.toString) = some cA := fun ty h => by
    obtain ⟨cA, k, comp, h1, h2, h3⟩ := Cond.arrayClass_spec (args := #[Value.ref b]) (first := s) (o := none) (s := s) (idx := []) h
    exact ⟨cA, fun n z => ⟨(fun k h => by cases h), k, h2, comp, h3⟩, h1⟩
  obtain ⟨g0, a0, n0⟩ := arr .int (hts _ (List.mem_of_getElem? (i := 145) (by decide +kernel)))
  obtain ⟨g1, a1, n1⟩ := arr .long (hts _ (List.mem_of_getElem? (i := 1131) (by decide +kernel)))
  obtain ⟨g2, a2, n2⟩ := arr .byte (hts _ (List.mem_of_getElem? (i := 122) (by decide +kernel)))
  obtain ⟨g3, a3, n3⟩ := arr .boolean (hts _ (List.mem_of_getElem? (i := 1132) (by decide +kernel)))
  have hov : (Cond.arrayOver (.object "TerraceRain$Branch")).before #[Value.ref b] s = true := hts _ (List.mem_of_getElem? (i := 279) (by decide +kernel))
  obtain ⟨comp, g4, kk, b1, -, b2, b3, b4⟩ := Cond.arrayOver_spec (args := #[Value.ref b]) (first := s) (o := none) (s := s) (idx := []) hov
  have hstr : ∀ (own : String) (k : Nat) (tx : String), (Cond.stringRef own k tx).before #[Value.ref b] s = true → (Cond.exactly (.string own k) "java/lang/String").before #[Value.ref b] s = true → ∃ sa, vk_R own k tx sa s := fun own k tx h1 h2 => by
    obtain ⟨a, c, cell, kq, q1, -⟩ := Cond.exactly_spec (args := #[Value.ref b]) (first := s) (o := none) (s := s) (idx := []) (t := .string own k) (cls := "java/lang/String") h2
    exact ⟨a, vk_R.of h1 q1⟩
  refine ⟨(fun c => (dx c).1, fun c => (dx c).2), fun k => match k with
    | 0 => g0
    | 1 => g1
    | 2 => g2
    | 3 => g3
    | _ => g4, ⟨fun c q hq => hdx c q hq, fun k q hq => ?_⟩, fun w hw => ?_, va_AO.of hov, fun k hk => ?_, fun x y hx hy hxy => ?_⟩
  · match k, hq with
    | 0, hq => cases hq; exact ⟨a0, n0⟩
    | 1, hq => cases hq; exact ⟨a1, n1⟩
    | 2, hq => cases hq; exact ⟨a2, n2⟩
    | 3, hq => cases hq; exact ⟨a3, n3⟩
    | 4, hq => cases hq; exact ⟨fun n z => ⟨(fun k h => by cases h), kk, b2, comp, b3⟩, kk, comp, b2, b3, b1, b4⟩
    | k + 5, hq => simp [mGT] at hq
  · obtain ⟨h1, h2⟩ := List.mem_filter.mp hw
    refine va_Nw.of ?_ (hts w h1)
    cases w <;> first | rfl | cases h2
  · match k, hk with
    | 0, _ => exact hstr "TerraceRain" 73 "the tape would be too long" (hts _ (List.mem_of_getElem? (i := 723) (by decide +kernel))) (hB 14 rfl)
    | 1, _ => exact hstr "TerraceRain" 83 "the tape has not so many bytes" (hts _ (List.mem_of_getElem? (i := 770) (by decide +kernel))) (hB 15 rfl)
    | 2, _ => exact hstr "TerraceRain" 244 "there is no such branch" (hts _ (List.mem_of_getElem? (i := 798) (by decide +kernel))) (hB 16 rfl)
    | 3, _ => exact hstr "TerraceRain" 156 "no level waits there" (hts _ (List.mem_of_getElem? (i := 854) (by decide +kernel))) (hB 17 rfl)
    | 4, _ => exact hstr "TerraceRain" 247 "there are no such terraces" (hts _ (List.mem_of_getElem? (i := 866) (by decide +kernel))) (hB 18 rfl)
    | 5, _ => exact hstr "TerraceRain" 249 "too small or too great" (hts _ (List.mem_of_getElem? (i := 958) (by decide +kernel))) (hB 19 rfl)
    | k + 6, h => omega
  · have : (x = 0 ∧ (y = 1 ∨ y = 2)) ∨ (x = 1 ∧ (y = 0 ∨ y = 2)) ∨ (x = 2 ∧ (y = 0 ∨ y = 1)) := by omega
    rcases this with ⟨rfl, rfl | rfl⟩ | ⟨rfl, rfl | rfl⟩ | ⟨rfl, rfl | rfl⟩
    · exact va_Nc.of (hB 8 rfl)
    · exact va_Nc.of (hB 9 rfl)
    · exact va_Nc.of (hB 10 rfl)
    · exact va_Nc.of (hB 11 rfl)
    · exact va_Nc.of (hB 12 rfl)
    · exact va_Nc.of (hB 13 rfl)
