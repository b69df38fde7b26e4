/-! how many wait over a terrace; water behind a level -/
def pcw (N : Nat) (V : Val) (t : Nat) : Nat → Nat → Nat
  | 0, _ => 0
  | k + 1, b => (if wtb (V b) = true then 1 else 0) + (if gIn N b = true then pcw N V t k (if t ≤ lb N (2 * b) then 2 * b else 2 * b + 1) else 0)
def pth (N t : Nat) : Nat → Nat → List Nat
  | 0, _ => []
  | k + 1, b => b :: (if gIn N b = true then pth N t k (if t ≤ lb N (2 * b) then 2 * b else 2 * b + 1) else [])
theorem pth_all : (List.range 33).all (fun N => decide (N < 2) || (List.range N).all (fun t => (List.range 64).filter (fun b => decide (1 ≤ b) && (gEx N b && tch N (nI t) (nI t) b)) == pth N t 6 1)) = true := by decide +kernel
theorem pth_at {N t : Nat} (h2 : 2 ≤ N) (h32 : N ≤ 32) (ht' : t < N) : (List.range 64).filter (fun b => decide (1 ≤ b) && (gEx N b && tch N (nI t) (nI t) b)) = pth N t 6 1 := by
  have h := List.all_eq_true.mp pth_all N (List.mem_range.mpr (by omega))
  rcases Bool.or_eq_true_iff.mp h with h | h
  · exact absurd (of_decide_eq_true h) (by omega)
  · exact eq_of_beq (List.all_eq_true.mp h t (List.mem_range.mpr ht'))
theorem pcw_pth {N t : Nat} {V : Val} : ∀ (k b : Nat), pcw N V t k b = ((pth N t k b).filter (fun b => wtb (V b))).length
  | 0, _ => rfl
  | k + 1, b => by
    rw [pcw, pth, List.filter_cons]
    have ih := pcw_pth (N := N) (t := t) (V := V) k (if t ≤ lb N (2 * b) then 2 * b else 2 * b + 1)
    by_cases hw : wtb (V b) = true
    · rw [if_pos hw, if_pos hw, List.length_cons]
      by_cases hi : gIn N b = true
      · rw [if_pos hi, if_pos hi, ih]
        omega
      · rw [if_neg hi, if_neg hi]
        rfl
    · rw [if_neg hw, if_neg hw]
      by_cases hi : gIn N b = true
      · rw [if_pos hi, if_pos hi, ih]
        omega
      · rw [if_neg hi, if_neg hi]
        rfl
theorem accI_len {P : Nat → Bool} : ∀ (k : Nat), accI P k = nI ((List.range k).filter P).length
  | 0 => rfl
  | k + 1 => by
    rw [accI, accI_len k, List.range_succ, List.filter_append, List.length_append]
    by_cases h : P k = true
    · rw [if_pos h, List.filter_cons, if_pos h]
      exact (nI_succ _).symm
    · rw [if_neg h, List.filter_cons, if_neg h]
      exact Int32.add_zero _
theorem ovC_pc {N t : Nat} {V : Val} (h2 : 2 ≤ N) (h32 : N ≤ 32) (ht' : t < N) : ovC N V (nI t) = nI (pcw N V t 6 1) := by
  unfold ovC
  rw [accI_len, pcw_pth, ← pth_at h2 h32 ht', List.filter_filter]
  refine congrArg (fun l => nI (List.length l)) (List.filter_congr (fun b _ => ?_))
  show (decide (1 ≤ b) && (gEx N b && (tch N (nI t) (nI t) b && wtb (V b)))) = (wtb (V b) && (decide (1 ≤ b) && (gEx N b && tch N (nI t) (nI t) b)))
  cases decide (1 ≤ b) <;> cases gEx N b <;> cases tch N (nI t) (nI t) b <;> cases wtb (V b) <;> rfl
theorem pcw_le {N t : Nat} {V : Val} : ∀ (k b : Nat), pcw N V t k b ≤ k
  | 0, _ => Nat.le_refl _
  | k + 1, b => by
    rw [pcw]
    have := pcw_le (N := N) (t := t) (V := V) k (if t ≤ lb N (2 * b) then 2 * b else 2 * b + 1)
    split <;> split <;> omega
/-- from a branch on up -/
theorem pcw_up {N : Nat} {V : Val} {t : Nat} (h2 : 2 ≤ N) (h32 : N ≤ 32) : ∀ (b : Nat), 1 ≤ b → b < 64 → gEx N b = true → fb N b ≤ t → t ≤ lb N b → pcw N V t (kd b) b ≤ pcw N V t 6 1 ∧ (pcw N V t 6 1 = pcw N V t (kd b) b → ∀ u, fb N b ≤ u → u ≤ lb N b → ht N V u = tl N V b u) := by
  intro b
  induction b using Nat.strongRecOn with
  | ind b ih =>
    intro h1 hb he t1 t2
    by_cases e : b = 1
    · subst e
      exact ⟨Nat.le_refl _, fun _ u _ _ => rfl⟩
    · have hi := up_in h2 h32 (by omega) hb he
      have hg := geo_in h2 h32 (b := b / 2) (by omega) hi
      obtain ⟨f1, f2, f3, f4, f5⟩ := fl_in h2 h32 (b := b / 2) (by omega) hi
      obtain ⟨-, -, -, d⟩ := kd_at (b := b / 2) (by omega) (by omega)
      obtain ⟨d1, d2⟩ := d (by omega)
      obtain ⟨-, -, a3, a4, -⟩ := fl_ex h2 h32 hb he
      obtain ⟨-, -, q3, q4, -⟩ := fl_ex h2 h32 (b := 2 * (b / 2)) (by omega) hg.2.2.2.2.2.2.2.1
      obtain ⟨-, -, r3, r4, -⟩ := fl_ex h2 h32 (b := 2 * (b / 2) + 1) (by omega) hg.2.2.2.2.2.2.2.2
      have hr : fb N (b / 2) ≤ fb N b ∧ lb N b ≤ lb N (b / 2) ∧ ∀ u, fb N b ≤ u → u ≤ lb N b → (if u ≤ lb N (2 * (b / 2)) then 2 * (b / 2) else 2 * (b / 2) + 1) = b := by
        rcases Nat.mod_two_eq_zero_or_one b with e | e
        · have e' : 2 * (b / 2) = b := by omega
          rw [e'] at f2 f3 f4 q3 q4 r3 ⊢
          exact ⟨by omega, by omega, fun u p q => by rw [if_pos q]⟩
        · have e' : 2 * (b / 2) + 1 = b := by omega
          rw [e'] at f3 f4 r3 ⊢
          exact ⟨by omega, by omega, fun u p q => by rw [if_neg (by omega)]⟩
      have hd : kd b + 1 = kd (b / 2) := by
        rcases Nat.mod_two_eq_zero_or_one b with e | e
        · rw [show 2 * (b / 2) = b by omega] at d1
          exact d1
        · rw [show 2 * (b / 2) + 1 = b by omega] at d2
          exact d2
      obtain ⟨g1, g2⟩ := ih (b / 2) (by omega) (by omega) (by omega) hg.2.2.1 (by omega) (by omega)
      have hst : pcw N V t (kd (b / 2)) (b / 2) = (if wtb (V (b / 2)) = true then 1 else 0) + pcw N V t (kd b) b := by rw [← hd, pcw, if_pos hi, hr.2.2 t t1 t2]
      rw [hst] at g1 g2
      refine ⟨by omega, fun hE u u1 u2 => ?_⟩
      have hw : ¬ wtb (V (b / 2)) = true := by
        intro hw
        rw [if_pos hw] at g1
        omega
      rw [if_neg hw, Nat.zero_add] at g2
      rw [g2 hE u (by omega) (by omega), tl_in h2 h32 (by omega) (by omega) hi (by omega), hr.2.2 u u1 u2]
      unfold wtb at hw
      simp only [Bool.or_eq_true, decide_eq_true_eq, not_or, Decidable.not_not] at hw
      rw [if_pos hw.1, hw.2, Int32.add_zero]
/-- on the left side down: what waits there -/
def pcl (N : Nat) (V : Val) : Nat → Nat → Nat
  | 0, _ => 0
  | k + 1, b => if gIn N b = true then (if wtb (V b) = true then 1 else 0) + pcl N V k (2 * b) else 0
theorem pcl_pc {N : Nat} {V : Val} (h2 : 2 ≤ N) (h32 : N ≤ 32) (hV : VI N V) : ∀ (k b : Nat), 1 ≤ b → b < 64 → gEx N b = true → pcw N V (fb N b) k b = pcl N V k b
  | 0, _, _, _, _ => rfl
  | k + 1, b, h1, hb, he => by
    rw [pcw, pcl]
    by_cases hi : gIn N b = true
    · have hg := geo_in h2 h32 hb hi
      obtain ⟨f1, f2, f3, f4, f5⟩ := fl_in h2 h32 hb hi
      have q := (fl_ex h2 h32 (b := 2 * b) (by omega) hg.2.2.2.2.2.2.2.1).2.2.1
      have hle : fb N b ≤ lb N (2 * b) := by rw [← f2]; exact q
      rw [if_pos hi, if_pos hi, if_pos hle, ← f2, pcl_pc h2 h32 hV k (2 * b) (by omega) (by omega) hg.2.2.2.2.2.2.2.1]
    · rw [if_neg hi, if_neg hi]
      have := (hV b h1 hb).2.2 (by simpa using hi)
      rw [if_neg (by unfold wtb; rw [this.1, this.2]; decide)]
theorem sR_lvl {g g' : Nat → Int64} {x : Int64} {f l N : Nat} (hfl : f ≤ l) (hl : l < N) (h : ∀ t, t < N → g' t = if f ≤ t ∧ t ≤ l then x else g t) : sR g' 0 N - sR g 0 N = x * nL (l + 1 - f) - sR g f (l + 1 - f) := by
  have e : N = f + ((l + 1 - f) + (N - (l + 1))) := by omega
  have s : ∀ q : Nat → Int64, sR q 0 N = sR q 0 f + (sR q f (l + 1 - f) + sR q (l + 1) (N - (l + 1))) := fun q => by
    have a := sR_sp (g := q) (f := 0) (m := f) ((l + 1 - f) + (N - (l + 1)))
    rw [← e, Nat.zero_add] at a
    rw [a, sR_sp, show f + (l + 1 - f) = l + 1 by omega]
  rw [s g', s g, sR_cg (g := g') (g' := g) f (fun t _ b => by rw [h t (by omega), if_neg (by omega)]), sR_cg (g := g') (g' := fun _ => x) (l + 1 - f) (fun t a b => by rw [h t (by omega), if_pos (by omega)]), sR_co, sR_cg (g := g') (g' := g) (N - (l + 1)) (fun t a b => by rw [h t (by omega), if_neg (by omega)])]
  generalize sR g 0 f = p
  generalize x * nL (l + 1 - f) = q
  generalize sR g f (l + 1 - f) = r
  generalize sR g (l + 1) (N - (l + 1)) = s
  simp only [Int64.sub_eq_add_neg, Int64.neg_add]
  have c1 : p + (q + s) + (-p + (-r + -s)) = (p + -p) + ((q + -r) + (s + -s)) := by ac_rfl
  rw [c1, Int64.add_right_neg, Int64.add_right_neg, Int64.add_zero, Int64.zero_add]
