/-! the start of the law: classes and strings -/
theorem gwl_sub {w : Cond} (h : w ∈ GWL) : w ∈ lw_tb2 := (List.mem_filter.mp h).1
theorem lsr_0 {args : Array Value} {s : State} (hts : ∀ w ∈ lw_tbl, w.before args s = true) : (Cond.stringRef (LSX 0).1 (LSX 0).2.1 (LSX 0).2.2).before args s = true := hts _ (List.mem_of_getElem? (i := 1066) (by decide +kernel))
theorem lsr_1 {args : Array Value} {s : State} (hts : ∀ w ∈ lw_tbl, w.before args s = true) : (Cond.stringRef (LSX 1).1 (LSX 1).2.1 (LSX 1).2.2).before args s = true := hts _ (List.mem_of_getElem? (i := 1198) (by decide +kernel))
theorem lsr_2 {args : Array Value} {s : State} (hts : ∀ w ∈ lw_tbl, w.before args s = true) : (Cond.stringRef (LSX 2).1 (LSX 2).2.1 (LSX 2).2.2).before args s = true := hts _ (List.mem_of_getElem? (i := 1265) (by decide +kernel))
theorem lsr_3 {args : Array Value} {s : State} (hts : ∀ w ∈ lw_tbl, w.before args s = true) : (Cond.stringRef (LSX 3).1 (LSX 3).2.1 (LSX 3).2.2).before args s = true := hts _ (List.mem_of_getElem? (i := 1291) (by decide +kernel))
theorem lsr_4 {args : Array Value} {s : State} (hts : ∀ w ∈ lw_tbl, w.before args s = true) : (Cond.stringRef (LSX 4).1 (LSX 4).2.1 (LSX 4).2.2).before args s = true := hts _ (List.mem_of_getElem? (i := 1299) (by decide +kernel))
theorem lsr_5 {args : Array Value} {s : State} (hts : ∀ w ∈ lw_tbl, w.before args s = true) : (Cond.stringRef (LSX 5).1 (LSX 5).2.1 (LSX 5).2.2).before args s = true := hts _ (List.mem_of_getElem? (i := 1300) (by decide +kernel))
theorem lsr_6 {args : Array Value} {s : State} (hts : ∀ w ∈ lw_tbl, w.before args s = true) : (Cond.stringRef (LSX 6).1 (LSX 6).2.1 (LSX 6).2.2).before args s = true := hts _ (List.mem_of_getElem? (i := 1301) (by decide +kernel))
theorem lsr_7 {args : Array Value} {s : State} (hts : ∀ w ∈ lw_tbl, w.before args s = true) : (Cond.stringRef (LSX 7).1 (LSX 7).2.1 (LSX 7).2.2).before args s = true := hts _ (List.mem_of_getElem? (i := 1302) (by decide +kernel))
theorem lsr_8 {args : Array Value} {s : State} (hts : ∀ w ∈ lw_tbl, w.before args s = true) : (Cond.stringRef (LSX 8).1 (LSX 8).2.1 (LSX 8).2.2).before args s = true := hts _ (List.mem_of_getElem? (i := 1303) (by decide +kernel))
theorem lsr_9 {args : Array Value} {s : State} (hts : ∀ w ∈ lw_tbl, w.before args s = true) : (Cond.stringRef (LSX 9).1 (LSX 9).2.1 (LSX 9).2.2).before args s = true := hts _ (List.mem_of_getElem? (i := 1304) (by decide +kernel))
theorem lsr_10 {args : Array Value} {s : State} (hts : ∀ w ∈ lw_tbl, w.before args s = true) : (Cond.stringRef (LSX 10).1 (LSX 10).2.1 (LSX 10).2.2).before args s = true := hts _ (List.mem_of_getElem? (i := 1305) (by decide +kernel))
theorem lsr_11 {args : Array Value} {s : State} (hts : ∀ w ∈ lw_tbl, w.before args s = true) : (Cond.stringRef (LSX 11).1 (LSX 11).2.1 (LSX 11).2.2).before args s = true := hts _ (List.mem_of_getElem? (i := 1306) (by decide +kernel))
theorem lsr_12 {args : Array Value} {s : State} (hts : ∀ w ∈ lw_tbl, w.before args s = true) : (Cond.stringRef (LSX 12).1 (LSX 12).2.1 (LSX 12).2.2).before args s = true := hts _ (List.mem_of_getElem? (i := 1307) (by decide +kernel))
theorem lsr_13 {args : Array Value} {s : State} (hts : ∀ w ∈ lw_tbl, w.before args s = true) : (Cond.stringRef (LSX 13).1 (LSX 13).2.1 (LSX 13).2.2).before args s = true := hts _ (List.mem_of_getElem? (i := 1308) (by decide +kernel))
theorem lsr_14 {args : Array Value} {s : State} (hts : ∀ w ∈ lw_tbl, w.before args s = true) : (Cond.stringRef (LSX 14).1 (LSX 14).2.1 (LSX 14).2.2).before args s = true := hts _ (List.mem_of_getElem? (i := 1309) (by decide +kernel))
theorem lsr_15 {args : Array Value} {s : State} (hts : ∀ w ∈ lw_tbl, w.before args s = true) : (Cond.stringRef (LSX 15).1 (LSX 15).2.1 (LSX 15).2.2).before args s = true := hts _ (List.mem_of_getElem? (i := 1310) (by decide +kernel))
theorem lsr_16 {args : Array Value} {s : State} (hts : ∀ w ∈ lw_tbl, w.before args s = true) : (Cond.stringRef (LSX 16).1 (LSX 16).2.1 (LSX 16).2.2).before args s = true := hts _ (List.mem_of_getElem? (i := 1311) (by decide +kernel))
theorem lsr_17 {args : Array Value} {s : State} (hts : ∀ w ∈ lw_tbl, w.before args s = true) : (Cond.stringRef (LSX 17).1 (LSX 17).2.1 (LSX 17).2.2).before args s = true := hts _ (List.mem_of_getElem? (i := 1312) (by decide +kernel))
theorem lsr_18 {args : Array Value} {s : State} (hts : ∀ w ∈ lw_tbl, w.before args s = true) : (Cond.stringRef (LSX 18).1 (LSX 18).2.1 (LSX 18).2.2).before args s = true := hts _ (List.mem_of_getElem? (i := 1313) (by decide +kernel))
theorem lsr_19 {args : Array Value} {s : State} (hts : ∀ w ∈ lw_tbl, w.before args s = true) : (Cond.stringRef (LSX 19).1 (LSX 19).2.1 (LSX 19).2.2).before args s = true := hts _ (List.mem_of_getElem? (i := 1314) (by decide +kernel))
theorem lsr_20 {args : Array Value} {s : State} (hts : ∀ w ∈ lw_tbl, w.before args s = true) : (Cond.stringRef (LSX 20).1 (LSX 20).2.1 (LSX 20).2.2).before args s = true := hts _ (List.mem_of_getElem? (i := 1315) (by decide +kernel))
theorem lsr_21 {args : Array Value} {s : State} (hts : ∀ w ∈ lw_tbl, w.before args s = true) : (Cond.stringRef (LSX 21).1 (LSX 21).2.1 (LSX 21).2.2).before args s = true := hts _ (List.mem_of_getElem? (i := 1316) (by decide +kernel))
theorem lsr_22 {args : Array Value} {s : State} (hts : ∀ w ∈ lw_tbl, w.before args s = true) : (Cond.stringRef (LSX 22).1 (LSX 22).2.1 (LSX 22).2.2).before args s = true := hts _ (List.mem_of_getElem? (i := 1321) (by decide +kernel))
theorem lsr_23 {args : Array Value} {s : State} (hts : ∀ w ∈ lw_tbl, w.before args s = true) : (Cond.stringRef (LSX 23).1 (LSX 23).2.1 (LSX 23).2.2).before args s = true := hts _ (List.mem_of_getElem? (i := 1379) (by decide +kernel))
theorem lsr_24 {args : Array Value} {s : State} (hts : ∀ w ∈ lw_tbl, w.before args s = true) : (Cond.stringRef (LSX 24).1 (LSX 24).2.1 (LSX 24).2.2).before args s = true := hts _ (List.mem_of_getElem? (i := 1380) (by decide +kernel))
theorem lsr_25 {args : Array Value} {s : State} (hts : ∀ w ∈ lw_tbl, w.before args s = true) : (Cond.stringRef (LSX 25).1 (LSX 25).2.1 (LSX 25).2.2).before args s = true := hts _ (List.mem_of_getElem? (i := 1382) (by decide +kernel))
theorem lsr_26 {args : Array Value} {s : State} (hts : ∀ w ∈ lw_tbl, w.before args s = true) : (Cond.stringRef (LSX 26).1 (LSX 26).2.1 (LSX 26).2.2).before args s = true := hts _ (List.mem_of_getElem? (i := 1383) (by decide +kernel))
theorem lsr_27 {args : Array Value} {s : State} (hts : ∀ w ∈ lw_tbl, w.before args s = true) : (Cond.stringRef (LSX 27).1 (LSX 27).2.1 (LSX 27).2.2).before args s = true := hts _ (List.mem_of_getElem? (i := 1384) (by decide +kernel))
theorem lsr_28 {args : Array Value} {s : State} (hts : ∀ w ∈ lw_tbl, w.before args s = true) : (Cond.stringRef (LSX 28).1 (LSX 28).2.1 (LSX 28).2.2).before args s = true := hts _ (List.mem_of_getElem? (i := 1385) (by decide +kernel))
theorem lsr_29 {args : Array Value} {s : State} (hts : ∀ w ∈ lw_tbl, w.before args s = true) : (Cond.stringRef (LSX 29).1 (LSX 29).2.1 (LSX 29).2.2).before args s = true := hts _ (List.mem_of_getElem? (i := 1386) (by decide +kernel))
theorem lsr_30 {args : Array Value} {s : State} (hts : ∀ w ∈ lw_tbl, w.before args s = true) : (Cond.stringRef (LSX 30).1 (LSX 30).2.1 (LSX 30).2.2).before args s = true := hts _ (List.mem_of_getElem? (i := 1387) (by decide +kernel))
theorem lsr_31 {args : Array Value} {s : State} (hts : ∀ w ∈ lw_tbl, w.before args s = true) : (Cond.stringRef (LSX 31).1 (LSX 31).2.1 (LSX 31).2.2).before args s = true := hts _ (List.mem_of_getElem? (i := 1388) (by decide +kernel))
theorem lsr_32 {args : Array Value} {s : State} (hts : ∀ w ∈ lw_tbl, w.before args s = true) : (Cond.stringRef (LSX 32).1 (LSX 32).2.1 (LSX 32).2.2).before args s = true := hts _ (List.mem_of_getElem? (i := 1389) (by decide +kernel))
theorem lsr_33 {args : Array Value} {s : State} (hts : ∀ w ∈ lw_tbl, w.before args s = true) : (Cond.stringRef (LSX 33).1 (LSX 33).2.1 (LSX 33).2.2).before args s = true := hts _ (List.mem_of_getElem? (i := 1391) (by decide +kernel))
theorem lsr_34 {args : Array Value} {s : State} (hts : ∀ w ∈ lw_tbl, w.before args s = true) : (Cond.stringRef (LSX 34).1 (LSX 34).2.1 (LSX 34).2.2).before args s = true := hts _ (List.mem_of_getElem? (i := 1392) (by decide +kernel))
theorem lsr_35 {args : Array Value} {s : State} (hts : ∀ w ∈ lw_tbl, w.before args s = true) : (Cond.stringRef (LSX 35).1 (LSX 35).2.1 (LSX 35).2.2).before args s = true := hts _ (List.mem_of_getElem? (i := 1393) (by decide +kernel))
theorem lsr_36 {args : Array Value} {s : State} (hts : ∀ w ∈ lw_tbl, w.before args s = true) : (Cond.stringRef (LSX 36).1 (LSX 36).2.1 (LSX 36).2.2).before args s = true := hts _ (List.mem_of_getElem? (i := 1394) (by decide +kernel))
theorem lsr_37 {args : Array Value} {s : State} (hts : ∀ w ∈ lw_tbl, w.before args s = true) : (Cond.stringRef (LSX 37).1 (LSX 37).2.1 (LSX 37).2.2).before args s = true := hts _ (List.mem_of_getElem? (i := 1395) (by decide +kernel))
theorem lsr_38 {args : Array Value} {s : State} (hts : ∀ w ∈ lw_tbl, w.before args s = true) : (Cond.stringRef (LSX 38).1 (LSX 38).2.1 (LSX 38).2.2).before args s = true := hts _ (List.mem_of_getElem? (i := 1396) (by decide +kernel))
theorem lsr_39 {args : Array Value} {s : State} (hts : ∀ w ∈ lw_tbl, w.before args s = true) : (Cond.stringRef (LSX 39).1 (LSX 39).2.1 (LSX 39).2.2).before args s = true := hts _ (List.mem_of_getElem? (i := 1397) (by decide +kernel))
theorem lsr_at {args : Array Value} {s : State} (hts : ∀ w ∈ lw_tbl, w.before args s = true) {k : Nat} (hk : k < 40) : (Cond.stringRef (LSX k).1 (LSX k).2.1 (LSX k).2.2).before args s = true := by
  match k, hk with
  | 0, _ => exact lsr_0 hts
  | 1, _ => exact lsr_1 hts
  | 2, _ => exact lsr_2 hts
  | 3, _ => exact lsr_3 hts
  | 4, _ => exact lsr_4 hts
  | 5, _ => exact lsr_5 hts
  | 6, _ => exact lsr_6 hts
  | 7, _ => exact lsr_7 hts
  | 8, _ => exact lsr_8 hts
  | 9, _ => exact lsr_9 hts
  | 10, _ => exact lsr_10 hts
  | 11, _ => exact lsr_11 hts
  | 12, _ => exact lsr_12 hts
  | 13, _ => exact lsr_13 hts
  | 14, _ => exact lsr_14 hts
  | 15, _ => exact lsr_15 hts
  | 16, _ => exact lsr_16 hts
  | 17, _ => exact lsr_17 hts
  | 18, _ => exact lsr_18 hts
  | 19, _ => exact lsr_19 hts
  | 20, _ => exact lsr_20 hts
  | 21, _ => exact lsr_21 hts
  | 22, _ => exact lsr_22 hts
  | 23, _ => exact lsr_23 hts
  | 24, _ => exact lsr_24 hts
  | 25, _ => exact lsr_25 hts
  | 26, _ => exact lsr_26 hts
  | 27, _ => exact lsr_27 hts
  | 28, _ => exact lsr_28 hts
  | 29, _ => exact lsr_29 hts
  | 30, _ => exact lsr_30 hts
  | 31, _ => exact lsr_31 hts
  | 32, _ => exact lsr_32 hts
  | 33, _ => exact lsr_33 hts
  | 34, _ => exact lsr_34 hts
  | 35, _ => exact lsr_35 hts
  | 36, _ => exact lsr_36 hts
  | 37, _ => exact lsr_37 hts
  | 38, _ => exact lsr_38 hts
  | 39, _ => exact lsr_39 hts
  | n + 40, h => omega
theorem kok_at {s : State} {b : Nat} {sL : Nat → Nat} (hts : ∀ w ∈ lw_tbl, w.before #[Value.ref b] s = true) (hgv : (Jvm.Cond.and given_1 narrow_1).before #[Value.ref b] s = true) (hsL : ∀ k, k < 40 → (tmL k).eval #[Value.ref b] s none [] s = some (.ref (sL k))) : ∃ (D : va_G) (G : Nat → ClassId), KOK D G s ∧ ∀ k, k < 40 → G (100 + k) = sL k := by
  have ht2 := hts2 hts
  have hB : ∀ (k : Nat) {w : Cond}, nwB[k]? = some w → w.before #[Value.ref b] s = true := fun k w hw => flat_of_before _ hgv _ (nwB_in k hw)
  have htg : ∀ w ∈ GWL, w.before #[Value.ref b] s = true := fun w hw => ht2 w (gwl_sub hw)
  have h0 : vwCl[0]? = some (RX0, TX0, 11) := rfl
  obtain ⟨c0, i0, k0⟩ := u_known (ws := GWL) htg (cls_in h0) (htg _ (cls_inst h0))
  have hc : ∀ c : Nat, ∃ x : ClassId × (Nat → Nat), ∀ q : vw_C, vwCl[c]? = some q → u_Kn s q.1 q.2.1 q.2.2 x.1 x.2 := by
    intro c
    cases hq : vwCl[c]? with
    | none => exact ⟨(c0, i0), fun q h => by cases h⟩
    | some q =>
      obtain ⟨c1, i1, k1⟩ := u_known (ws := GWL) htg (cls_in hq) (htg _ (cls_inst hq))
      exact ⟨(c1, i1), fun q' h => by cases h; exact k1⟩
  obtain ⟨dx, hdx⟩ := Classical.axiomOfChoice hc
  have arr : ∀ ty : FieldType, (Cond.arrayClass ty).before #[Value.ref b] s = true → ∃ cA : ClassId, ArrOfT s cA ty ∧ s.vm.findClass ("[" ++ ty.toString) = some cA := fun ty h => by
    obtain ⟨cA, k, comp, h1, h2, h3⟩ := Cond.arrayClass_spec (args := #[Value.ref b]) (first := s) (o := none) (s := s) (idx := []) h
    exact ⟨cA, fun n z => ⟨(fun k h => by cases h), k, h2, comp, h3⟩, h1⟩
  obtain ⟨g0, a0, n0⟩ := arr .int (hts _ (List.mem_of_getElem? (i := 102) (by decide +kernel)))
  obtain ⟨g2, a2, n2⟩ := arr .byte (hts _ (List.mem_of_getElem? (i := 79) (by decide +kernel)))
  have ovr : ∀ C : String, (Cond.arrayOver (.object C)).before #[Value.ref b] s = true → ∃ cA : ClassId, ArrOfT s cA (.object C) ∧ va_RA s cA (.object C) := fun C h => by
    obtain ⟨comp, g4, kk, b1, -, b2, b3, b4⟩ := Cond.arrayOver_spec (args := #[Value.ref b]) (first := s) (o := none) (s := s) (idx := []) h
    exact ⟨g4, fun n z => ⟨(fun k h => by cases h), kk, b2, comp, b3⟩, kk, comp, b2, b3, b1, b4⟩
  have hovB : (Cond.arrayOver (.object "TerraceRain$Branch")).before #[Value.ref b] s = true := hts _ (List.mem_of_getElem? (i := 236) (by decide +kernel))
  have hovS : (Cond.arrayOver (.object "java/lang/String")).before #[Value.ref b] s = true := hts _ (List.mem_of_getElem? (i := 1298) (by decide +kernel))
  have hovO : (Cond.arrayOver (.object "TerraceRainLaw$Order")).before #[Value.ref b] s = true := hts _ (List.mem_of_getElem? (i := 1038) (by decide +kernel))
  have hovI : (Cond.arrayOver (.array .int)).before #[Value.ref b] s = true := hts _ (List.mem_of_getElem? (i := 1040) (by decide +kernel))
  obtain ⟨g4, a4, n4⟩ := ovr _ hovB
  obtain ⟨g6, a6, n6⟩ := ovr _ hovS
  obtain ⟨g8, a8, n8⟩ := ovr _ hovO
  obtain ⟨comp7, g7, k7, h71, h72, h73, h74, h75⟩ := arrayOverA_spec (t := .int) hovI
  have hstr : ∀ (own : String) (k : Nat) (tx : String), (Cond.stringRef own k tx).before #[Value.ref b] s = true → (Cond.exactly (.string own k) "java/lang/String").before #[Value.ref b] s = true → ∃ sa, vk_R own k tx sa s := fun own k tx h1 h2 => by
    obtain ⟨a, c, cell, kq, q1, -⟩ := Cond.exactly_spec (args := #[Value.ref b]) (first := s) (o := none) (s := s) (idx := []) (t := .string own k) (cls := "java/lang/String") h2
    exact ⟨a, vk_R.of h1 q1⟩
  refine ⟨(fun c => (dx c).1, fun c => (dx c).2), fun k => if 100 ≤ k then sL (k - 100) else match k with
    | 0 => g0
    | 2 => g2
    | 4 => g4
    | 6 => g6
    | 7 => g7
    | _ => g8, ⟨⟨fun c q hq => hdx c q hq, fun k q hq => ?_⟩, fun w hw => ?_, ⟨va_AO.of hovB, va_AO.of hovS, va_AO.of hovO, hovI⟩, fun k hk => ?_, fun k hk => ?_, trivial⟩, fun k hk => ?_⟩
  · match k, hq with
    | 0, hq => cases hq; exact ⟨a0, n0⟩
    | 1, hq => cases hq; exact ⟨a2, n2⟩
    | 2, hq => cases hq; exact ⟨a4, n4⟩
    | 3, hq => cases hq; exact ⟨a6, n6⟩
    | 4, hq => cases hq; exact ⟨fun n z => ⟨(fun k h => by cases h), k7, h73, comp7, h74⟩, h75⟩
    | 5, hq => cases hq; exact ⟨a8, n8⟩
    | k + 6, hq => simp at hq
  · obtain ⟨h1, h2⟩ := List.mem_filter.mp hw
    refine va_Nw.of ?_ (ht2 w h1)
    cases w <;> first | rfl | cases h2
  · show vk_R (LSX k).1 (LSX k).2.1 (LSX k).2.2 (if 100 ≤ 100 + k then sL (100 + k - 100) else _) s
    rw [if_pos (Nat.le_add_right _ _), Nat.add_sub_cancel_left]
    exact vk_R.of (lsr_at hts hk) (hsL k hk)
  · match k, hk with
    | 0, _ => exact hstr "TerraceRain" 73 "the tape would be too long" (hts _ (List.mem_of_getElem? (i := 866) (by decide +kernel))) (hB 6 rfl)
    | 1, _ => exact hstr "TerraceRain" 83 "the tape has not so many bytes" (hts _ (List.mem_of_getElem? (i := 875) (by decide +kernel))) (hB 7 rfl)
    | 2, _ => exact hstr "TerraceRain" 244 "there is no such branch" (hts _ (List.mem_of_getElem? (i := 396) (by decide +kernel))) (hB 8 rfl)
    | 3, _ => exact hstr "TerraceRain" 156 "no level waits there" (hts _ (List.mem_of_getElem? (i := 459) (by decide +kernel))) (hB 9 rfl)
    | 4, _ => exact hstr "TerraceRain" 247 "there are no such terraces" (hts _ (List.mem_of_getElem? (i := 474) (by decide +kernel))) (hB 10 rfl)
    | 5, _ => exact hstr "TerraceRain" 249 "too small or too great" (hts _ (List.mem_of_getElem? (i := 590) (by decide +kernel))) (hB 11 rfl)
    | k + 6, h => omega
  · show (if 100 ≤ 100 + k then sL (100 + k - 100) else _) = sL k
    rw [if_pos (Nat.le_add_right _ _), Nat.add_sub_cancel_left]
