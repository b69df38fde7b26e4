/-! weaker ends, and many steps at once; then: what the small machine says of a method holds of the real one -/
theorem xback_mono {hd : String → Nat ⊕ Bool} {Q Q' : MPost} {P P' : MP} {pc : Nat} {ls : MLoc} {r : List Value} {c n : Nat} (hQ : ∀ o τ μ, Q o τ μ → Q' o τ μ) (hP : ∀ pc ls st τ c n μ, P pc ls st τ c n μ → P' pc ls st τ c n μ) : ∀ o τ μ, xback hd Q P pc ls r c n o τ μ → xback hd Q' P' pc ls r c n o τ μ := by
  intro o τ μ h
  cases o with
  | inl v => exact hP _ _ _ _ _ _ _ h
  | inr e =>
    have h : (match hd e with
      | .inl h => ∀ q : Nat, P h ls [.ref q] τ c n μ
      | .inr true => Q (.inr e) τ μ
      | .inr false => False) := h
    show (match hd e with
      | .inl h => ∀ q : Nat, P' h ls [.ref q] τ c n μ
      | .inr true => Q' (.inr e) τ μ
      | .inr false => False)
    cases hh : hd e with
    | inl z =>
      rw [hh] at h
      exact fun q => hP _ _ _ _ _ _ _ (h q)
    | inr b =>
      rw [hh] at h
      cases b with
      | true => exact hQ _ _ _ h
      | false => exact h
theorem xcall_mono {cal cal' : MCal} (hcal : ∀ a As τ c n μ (Q Q' : MPost), (∀ o τ μ, Q o τ μ → Q' o τ μ) → cal a As τ c n μ Q → cal' a As τ c n μ Q') {hd : String → Nat ⊕ Bool} {Q Q' : MPost} {P P' : MP} {pc : Nat} {ls : MLoc} {r : List Value} {τ : MTau} {c n : Nat} {μ : MMu} {a : Nat} {As : List Value} (hQ : ∀ o τ μ, Q o τ μ → Q' o τ μ) (hP : ∀ pc ls st τ c n μ, P pc ls st τ c n μ → P' pc ls st τ c n μ) (h : xcall cal hd Q P pc ls r τ c n μ a As) : xcall cal' hd Q' P' pc ls r τ c n μ a As := by
  obtain ⟨h4, c1, n1, c2, n2, h1, h2, h3⟩ := h
  exact ⟨h4, c1, n1, c2, n2, h1, h2, hcal _ _ _ _ _ _ _ _ (xback_mono hQ hP) h3⟩
theorem xload_mono {ok : Value → Bool} {P P' : MP} {pc k : Nat} {ls : MLoc} {st : List Value} {τ : MTau} {c n : Nat} {μ : MMu} (hP : ∀ pc ls st τ c n μ, P pc ls st τ c n μ → P' pc ls st τ c n μ) (h : xload ok P pc k ls st τ c n μ) : xload ok P' pc k ls st τ c n μ := by
  unfold xload at h ⊢
  split at h
  · exact ⟨h.1, hP _ _ _ _ _ _ _ h.2⟩
  · exact h.elim
theorem xald_mono {tags : Nat → Bool} {E : MEnv} {P P' : MP} {pc : Nat} {ls : MLoc} {st : List Value} {τ : MTau} {c n : Nat} {μ : MMu} (hP : ∀ pc ls st τ c n μ, P pc ls st τ c n μ → P' pc ls st τ c n μ) (h : xald tags E P pc ls st τ c n μ) : xald tags E P' pc ls st τ c n μ := by
  unfold xald at h ⊢
  split at h
  · split at h
    · exact ⟨h.1, h.2.1, hP _ _ _ _ _ _ _ h.2.2⟩
    · exact h.elim
  · exact h.elim
theorem swL_mono {P P' : Nat → Prop} {x : Int32} {pc : Nat} (hP : ∀ t, P t → P' t) : ∀ (os : List Int) (k : Int), swL P x pc k os → swL P' x pc k os
  | [], _, _ => trivial
  | o :: r, k, h => ⟨fun z => hP _ (h.1 z), swL_mono hP r (k + 1) h.2⟩
theorem swP_mono {P P' : Nat → Prop} {x : Int32} {pc : Nat} (hP : ∀ t, P t → P' t) : ∀ (ps : List (Int × Int)), swP P x pc ps → swP P' x pc ps
  | [], _ => trivial
  | (k, o) :: r, h => ⟨fun z => hP _ (h.1 z), swP_mono hP r h.2⟩
theorem oiP_mono {P P' : List Value → Prop} (hP : ∀ q, P q → P' q) {st : List Value} (h : oiP P st) : oiP P' st := by
  unfold oiP at h ⊢
  split at h
  · exact ⟨h.1, hP _ h.2⟩
  · exact h.elim
theorem acP_mono {E : MEnv} {P P' : List Value → MMu → Prop} (hP : ∀ q μ, P q μ → P' q μ) {τ : MTau} {μ : MMu} {st : List Value} (h : acP P E τ μ st) : acP P' E τ μ st := by
  unfold acP at h ⊢
  split at h
  · rename_i k dp o1 sp o0 q9
    cases e0 : aget E τ μ o0 with
    | none => rw [e0] at h; exact h.elim
    | some z0 =>
      obtain ⟨t0, n0, f0⟩ := z0
      cases e1 : τ o1 with
      | none => rw [e0, e1] at h; exact h.elim
      | some x1 =>
        cases x1 with
        | inl z1 => rw [e0, e1] at h; exact h.elim
        | inr z1 =>
          rw [e0, e1] at h
          exact ⟨h.1, h.2.1, h.2.2.1, h.2.2.2.1, h.2.2.2.2.1, h.2.2.2.2.2.1, h.2.2.2.2.2.2.1, h.2.2.2.2.2.2.2.1, h.2.2.2.2.2.2.2.2.1, hP _ _ h.2.2.2.2.2.2.2.2.2⟩
  · exact h.elim
theorem cvP_mono {E : MEnv} {P P' : Nat → Nat → Nat → List Value → Prop} (hP : ∀ z o N q, P z o N q → P' z o N q) {τ : MTau} {c n : Nat} {μ : MMu} {st : List Value} (h : cvP P E τ c n μ st) : cvP P' E τ c n μ st := by
  unfold cvP at h ⊢
  split at h
  · split at h
    · exact ⟨h.1, h.2.1, h.2.2.1, h.2.2.2.1, fun z hz => hP _ _ _ _ (h.2.2.2.2 z hz)⟩
    · exact h.elim
  · exact h.elim
set_option maxHeartbeats 8000000 in
theorem exI_mono {E : MEnv} {cal cal' : MCal} (hcal : ∀ a As τ c n μ (Q Q' : MPost), (∀ o τ μ, Q o τ μ → Q' o τ μ) → cal a As τ c n μ Q → cal' a As τ c n μ Q') {Q Q' : MPost} {i : Nat} {P P' : MP} {pc : Nat} {ls : MLoc} {st : List Value} {τ : MTau} {c n : Nat} {μ : MMu} {x : Option MEn} (hQ : ∀ o τ μ, Q o τ μ → Q' o τ μ) (hP : ∀ pc ls st τ c n μ, P pc ls st τ c n μ → P' pc ls st τ c n μ) (h : exI E cal Q i P pc ls st τ c n μ x) : exI E cal' Q' i P' pc ls st τ c n μ x := by
  cases x with
  | none => exact h
  | some x =>
    obtain ⟨ins, l9, a, b, w, r⟩ := x
    cases ins <;> try (exact h.elim)
    case iconst k => exact hP _ _ _ _ _ _ _ h
    case bipush k => exact hP _ _ _ _ _ _ _ h
    case sipush k => exact hP _ _ _ _ _ _ _ h
    case lconst k => exact hP _ _ _ _ _ _ _ h
    case aconst_null => exact hP _ _ _ _ _ _ _ h
    case ldc2_w k => exact hP _ _ _ _ _ _ _ h
    case goto k => exact hP _ _ _ _ _ _ _ h
    case getstatic k => exact hP _ _ _ _ _ _ _ h
    case ldc k =>
      have h : if a < 100 then a ≤ 4 ∧ P (pc + 2) ls (.int (mInt a) :: st) τ c n μ else P (pc + 2) ls (E.1 a :: st) τ c n μ := h
      show if a < 100 then a ≤ 4 ∧ P' (pc + 2) ls (.int (mInt a) :: st) τ c n μ else P' (pc + 2) ls (E.1 a :: st) τ c n μ
      split at h
      · rename_i h9
        rw [if_pos h9]
        exact ⟨h.1, hP _ _ _ _ _ _ _ h.2⟩
      · rename_i h9
        rw [if_neg h9]
        exact hP _ _ _ _ _ _ _ h
    case iload_n k => exact xload_mono hP h
    case iload k => exact xload_mono hP h
    case lload_n k => exact xload_mono hP h
    case lload k => exact xload_mono hP h
    case dload k => exact xload_mono hP h
    case aload_n k => exact xload_mono hP h
    case aload k => exact xload_mono hP h
    case iaload => exact xald_mono hP h
    case laload => exact xald_mono hP h
    case baload => exact xald_mono hP h
    case aaload => exact xald_mono hP h
    case istore_n k =>
      dsimp only [exI] at h
      split at h
      · exact hP _ _ _ _ _ _ _ h
      · exact h.elim
    case istore k =>
      dsimp only [exI] at h
      split at h
      · exact hP _ _ _ _ _ _ _ h
      · exact h.elim
    case lstore_n k =>
      dsimp only [exI] at h
      split at h
      · exact hP _ _ _ _ _ _ _ h
      · exact h.elim
    case lstore k =>
      dsimp only [exI] at h
      split at h
      · exact hP _ _ _ _ _ _ _ h
      · exact h.elim
    case dstore k =>
      dsimp only [exI] at h
      split at h
      · exact hP _ _ _ _ _ _ _ h
      · exact h.elim
    case iadd =>
      dsimp only [exI] at h
      split at h
      · exact hP _ _ _ _ _ _ _ h
      · exact h.elim
    case isub =>
      dsimp only [exI] at h
      split at h
      · exact hP _ _ _ _ _ _ _ h
      · exact h.elim
    case imul =>
      dsimp only [exI] at h
      split at h
      · exact hP _ _ _ _ _ _ _ h
      · exact h.elim
    case ineg =>
      dsimp only [exI] at h
      split at h
      · exact hP _ _ _ _ _ _ _ h
      · exact h.elim
    case iand =>
      dsimp only [exI] at h
      split at h
      · exact hP _ _ _ _ _ _ _ h
      · exact h.elim
    case ior =>
      dsimp only [exI] at h
      split at h
      · exact hP _ _ _ _ _ _ _ h
      · exact h.elim
    case ixor =>
      dsimp only [exI] at h
      split at h
      · exact hP _ _ _ _ _ _ _ h
      · exact h.elim
    case ishr =>
      dsimp only [exI] at h
      split at h
      · exact hP _ _ _ _ _ _ _ h
      · exact h.elim
    case ishl =>
      dsimp only [exI] at h
      split at h
      · exact hP _ _ _ _ _ _ _ h
      · exact h.elim
    case i2b =>
      dsimp only [exI] at h
      split at h
      · exact hP _ _ _ _ _ _ _ h
      · exact h.elim
    case i2c =>
      dsimp only [exI] at h
      split at h
      · exact hP _ _ _ _ _ _ _ h
      · exact h.elim
    case i2l =>
      dsimp only [exI] at h
      split at h
      · exact hP _ _ _ _ _ _ _ h
      · exact h.elim
    case l2i =>
      dsimp only [exI] at h
      split at h
      · exact hP _ _ _ _ _ _ _ h
      · exact h.elim
    case l2d =>
      dsimp only [exI] at h
      split at h
      · exact hP _ _ _ _ _ _ _ h
      · exact h.elim
    case i2d =>
      dsimp only [exI] at h
      split at h
      · exact hP _ _ _ _ _ _ _ h
      · exact h.elim
    case ladd =>
      dsimp only [exI] at h
      split at h
      · exact hP _ _ _ _ _ _ _ h
      · exact h.elim
    case lsub =>
      dsimp only [exI] at h
      split at h
      · exact hP _ _ _ _ _ _ _ h
      · exact h.elim
    case lmul =>
      dsimp only [exI] at h
      split at h
      · exact hP _ _ _ _ _ _ _ h
      · exact h.elim
    case lcmp =>
      dsimp only [exI] at h
      split at h
      · exact hP _ _ _ _ _ _ _ h
      · exact h.elim
    case dcmp op =>
      dsimp only [exI] at h
      split at h
      · exact hP _ _ _ _ _ _ _ h
      · exact h.elim
    case astore_n k =>
      dsimp only [exI] at h
      split at h
      · exact hP _ _ _ _ _ _ _ h
      · exact hP _ _ _ _ _ _ _ h
      · exact h.elim
    case astore k =>
      dsimp only [exI] at h
      split at h
      · exact hP _ _ _ _ _ _ _ h
      · exact hP _ _ _ _ _ _ _ h
      · exact h.elim
    case ifnull k =>
      dsimp only [exI] at h
      split at h
      · exact hP _ _ _ _ _ _ _ h
      · exact hP _ _ _ _ _ _ _ h
      · exact h.elim
    case ifnonnull k =>
      dsimp only [exI] at h
      split at h
      · exact hP _ _ _ _ _ _ _ h
      · exact hP _ _ _ _ _ _ _ h
      · exact h.elim
    case idiv =>
      dsimp only [exI] at h
      split at h
      · exact ⟨h.1, hP _ _ _ _ _ _ _ h.2⟩
      · exact h.elim
    case irem =>
      dsimp only [exI] at h
      split at h
      · exact ⟨h.1, hP _ _ _ _ _ _ _ h.2⟩
      · exact h.elim
    case ddiv =>
      dsimp only [exI] at h
      split at h
      · exact ⟨h.1, hP _ _ _ _ _ _ _ h.2⟩
      · exact h.elim
    case dup =>
      dsimp only [exI] at h
      split at h
      · exact ⟨h.1, hP _ _ _ _ _ _ _ h.2⟩
      · exact h.elim
    case pop =>
      dsimp only [exI] at h
      split at h
      · exact ⟨h.1, hP _ _ _ _ _ _ _ h.2⟩
      · exact h.elim
    case checkcast k =>
      dsimp only [exI] at h
      split at h
      · exact ⟨h.1, h.2.1, hP _ _ _ _ _ _ _ h.2.2⟩
      · exact h.elim
    case dup2 =>
      dsimp only [exI] at h
      split at h
      · exact ⟨h.1, h.2.1, hP _ _ _ _ _ _ _ h.2.2⟩
      · exact h.elim
    case iinc k dd =>
      dsimp only [exI] at h ⊢
      split at h
      · exact hP _ _ _ _ _ _ _ h
      · exact h.elim
    case ifCond cc k =>
      dsimp only [exI] at h
      split at h
      · cases cc <;> exact ⟨fun z => hP _ _ _ _ _ _ _ (h.1 z), fun z => hP _ _ _ _ _ _ _ (h.2 z)⟩
      · exact h.elim
    case if_icmp cc k =>
      dsimp only [exI] at h
      split at h
      · cases cc <;> exact ⟨fun z => hP _ _ _ _ _ _ _ (h.1 z), fun z => hP _ _ _ _ _ _ _ (h.2 z)⟩
      · exact h.elim
    case tableswitch df lo hi offs =>
      dsimp only [exI] at h
      split at h
      · exact ⟨fun z => hP _ _ _ _ _ _ _ (h.1 z), swL_mono (fun t => hP _ _ _ _ _ _ _) _ _ h.2⟩
      · exact h.elim
    case lookupswitch df ps =>
      dsimp only [exI] at h
      split at h
      · exact ⟨fun z => hP _ _ _ _ _ _ _ (h.1 z), swP_mono (fun t => hP _ _ _ _ _ _ _) _ h.2⟩
      · exact h.elim
    case getfield k =>
      dsimp only [exI] at h
      split at h
      · rename_i o9 q9
        dsimp only [exI]
        split at h
        · exact hP _ _ _ _ _ _ _ h
        · exact h.elim
      · exact h.elim
    case putfield k =>
      dsimp only [exI] at h
      split at h
      · exact ⟨h.1, h.2.1, hP _ _ _ _ _ _ _ h.2.2⟩
      · exact h.elim
    case new k =>
      match b, h with
      | 0, h => exact ⟨h.1, h.2.1, fun o z => hP _ _ _ _ _ _ _ (h.2.2 o z)⟩
      | 1, h => exact ⟨h.1, h.2.1, h.2.2.1, hQ _ _ _ h.2.2.2⟩
      | b + 2, h => exact h.elim
    case newarray t =>
      dsimp only [exI] at h
      split at h
      · exact ⟨h.1, h.2.1, h.2.2.1, h.2.2.2.1, h.2.2.2.2.1, fun o z => hP _ _ _ _ _ _ _ (h.2.2.2.2.2 o z)⟩
      · exact h.elim
    case anewarray k =>
      dsimp only [exI] at h
      split at h
      · exact ⟨h.1, h.2.1, h.2.2.1, h.2.2.2.1, fun o z => hP _ _ _ _ _ _ _ (h.2.2.2.2 o z)⟩
      · exact h.elim
    case arraylength =>
      dsimp only [exI] at h
      split at h
      · dsimp only [exI]
        split at h
        · exact hP _ _ _ _ _ _ _ h
        · exact h.elim
      · exact h.elim
    case iastore =>
      dsimp only [exI] at h
      split at h
      · split at h
        · rename_i ho9
          dsimp only [exI]
          rw [ho9]
          exact ⟨h.1, hP _ _ _ _ _ _ _ h.2⟩
        · exact h.elim
      · exact h.elim
    case lastore =>
      dsimp only [exI] at h
      split at h
      · split at h
        · rename_i ho9
          dsimp only [exI]
          rw [ho9]
          exact ⟨h.1, hP _ _ _ _ _ _ _ h.2⟩
        · exact h.elim
      · exact h.elim
    case bastore =>
      dsimp only [exI] at h
      split at h
      · split at h
        · rename_i ho9
          dsimp only [exI]
          rw [ho9]
          exact ⟨h.1, hP _ _ _ _ _ _ _ h.2⟩
        · rename_i ho9
          dsimp only [exI]
          rw [ho9]
          exact ⟨h.1, hP _ _ _ _ _ _ _ h.2⟩
        · exact h.elim
      · exact h.elim
    case aastore =>
      dsimp only [exI] at h
      split at h
      · split at h
        · rename_i ho9
          dsimp only [exI]
          rw [ho9]
          exact ⟨h.1, h.2.1, hP _ _ _ _ _ _ _ h.2.2⟩
        · exact h.elim
      · exact h.elim
    case invokestatic k =>
      by_cases ha0 : a = 1001
      · subst ha0
        exact acP_mono (P := fun q9 μ9 => P (pc + 3) ls q9 τ c n μ9) (P' := fun q9 μ9 => P' (pc + 3) ls q9 τ c n μ9) (fun _ _ z => hP _ _ _ _ _ _ _ z) h
      · have hne : (a == 1001) = false := by simpa using ha0
        rw [e_invS hne] at h ⊢
        split at h
        · exact xcall_mono hcal hQ hP h
        · exact h.elim
    case invokevirtual k =>
      by_cases ha0 : a = 1002
      · subst ha0
        exact cvP_mono (P := fun z o N q9 => P (pc + 3) ls (.ref z :: q9) (tset τ z (.inr (2, N))) (c - 1) (n - N) (mrow μ z (μ o))) (P' := fun z o N q9 => P' (pc + 3) ls (.ref z :: q9) (tset τ z (.inr (2, N))) (c - 1) (n - N) (mrow μ z (μ o))) (fun _ _ _ _ y => hP _ _ _ _ _ _ _ y) h
      · have hne : (a == 1002) = false := by simpa using ha0
        rw [e_invV hne] at h ⊢
        split at h
        · rename_i hpop
          exact ⟨h.1, xcall_mono hcal hQ hP h.2⟩
        · exact h.elim
    case invokespecial k =>
      by_cases ha0 : a = 1000
      · subst ha0
        exact oiP_mono (P := fun q9 => P (pc + 3) ls q9 τ c n μ) (P' := fun q9 => P' (pc + 3) ls q9 τ c n μ) (fun _ z => hP _ _ _ _ _ _ _ z) h
      · have hne : (a == 1000) = false := by simpa using ha0
        rw [e_invI hne] at h ⊢
        split at h
        · rename_i hpop
          exact ⟨h.1, xcall_mono hcal hQ hP h.2⟩
        · exact h.elim
    case ireturn =>
      dsimp only [exI] at h
      split at h
      · exact ⟨h.1, hQ _ _ _ h.2⟩
      · exact h.elim
    case lreturn =>
      dsimp only [exI] at h
      split at h
      · exact hQ _ _ _ h
      · exact h.elim
    case dreturn =>
      dsimp only [exI] at h
      split at h
      · exact hQ _ _ _ h
      · exact h.elim
    case return_ =>
      dsimp only [exI] at h
      split at h
      · exact hQ _ _ _ h
      · exact h.elim
    case areturn =>
      dsimp only [exI] at h
      split at h
      · exact hQ _ _ _ h
      · exact hQ _ _ _ h
      · exact h.elim
theorem mwp_mono {E : MEnv} : ∀ (d a : Nat) (As : List Value) (τ : MTau) (c n : Nat) (μ : MMu) (Q Q' : MPost), (∀ o τ μ, Q o τ μ → Q' o τ μ) → mwp E d a As τ c n μ Q → mwp E d a As τ c n μ Q'
  | 0, _, _, _, _, _, _, _, _, _, h => h
  | d + 1, _, _, _, _, _, _, _, _, hQ, h => ⟨h.1, fun P hP hF => h.2 P (fun pc ls st τ c n μ hx => hP pc ls st τ c n μ (exI_mono (mwp_mono d) hQ (fun _ _ _ _ _ _ _ z => z) hx)) hF⟩
theorem RT_le {E : MEnv} {d : Nat} {Q : MPost} {i : Nat} {P : MP} (hP : ∀ pc ls st τ c n μ, exI E (mwp E d) Q i P pc ls st τ c n μ (COD i pc) → P pc ls st τ c n μ) (L : List Nat) : ∀ (k pc : Nat) (ls : MLoc) (st : List Value) (τ : MTau) (c n : Nat) (μ : MMu), RT E (mwp E d) Q i L P k pc ls st τ c n μ → P pc ls st τ c n μ
  | 0, _, _, _, _, _, _, _, h => h
  | k + 1, pc, ls, st, τ, c, n, μ, h => by
    rw [RT_s] at h
    by_cases hL : L.contains pc = true
    · rw [if_pos hL] at h
      exact h
    · rw [if_neg hL] at h
      exact hP _ _ _ _ _ _ _ (exI_mono (mwp_mono d) (fun _ _ _ z => z) (RT_le hP L k) h)
/-- on from here, k steps, up to the stops of L -/
theorem go {E : MEnv} {d : Nat} {Q : MPost} {i : Nat} {P : MP} (hP : ∀ pc ls st τ c n μ, exI E (mwp E d) Q i P pc ls st τ c n μ (COD i pc) → P pc ls st τ c n μ) (L : List Nat) (k : Nat) {pc : Nat} {ls : MLoc} {st : List Value} {τ : MTau} {c n : Nat} {μ : MMu} (h : exI E (mwp E d) Q i (RT E (mwp E d) Q i L P k) pc ls st τ c n μ (COD i pc)) : P pc ls st τ c n μ :=
  hP _ _ _ _ _ _ _ (exI_mono (mwp_mono d) (fun _ _ _ z => z) (RT_le hP L k) h)
theorem pick_sub {ls ls' : MLoc} (ks : List Nat) (h : lv_pick ls ks = ls') : ∀ z ∈ ls', z ∈ ls := by
  intro z hz
  subst h
  obtain ⟨k, -, hk⟩ := List.mem_filterMap.mp hz
  exact List.mem_of_getElem? hk
/-- a call that makes no cell -/
theorem call0 {cal : MCal} {hd : String → Nat ⊕ Bool} {Q : MPost} {P : MP} {pc : Nat} {ls : MLoc} {r : List Value} {τ : MTau} {c n : Nat} {μ : MMu} {a : Nat} {As : List Value} (h4 : r.length ≤ 4) (h : cal a As τ 0 0 μ (xback hd Q P pc ls r c n)) : xcall cal hd Q P pc ls r τ c n μ a As :=
  ⟨h4, 0, 0, c, n, (Nat.zero_add _).symm, (Nat.zero_add _).symm, h⟩
theorem callK {cal : MCal} {hd : String → Nat ⊕ Bool} {Q : MPost} {P : MP} {pc : Nat} {ls : MLoc} {r : List Value} {τ : MTau} {c n : Nat} {μ : MMu} {a : Nat} {As : List Value} (c1 n1 : Nat) (hc : c1 ≤ c) (hn : n1 ≤ n) (h4 : r.length ≤ 4) (h : cal a As τ c1 n1 μ (xback hd Q P pc ls r (c - c1) (n - n1))) : xcall cal hd Q P pc ls r τ c n μ a As :=
  ⟨h4, c1, n1, c - c1, n - n1, by omega, by omega, h⟩
theorem kind_ne4 : (List.range 257).all (fun i => match MT[i]? with
  | some q => decide (q.2.2.2.2.2.2.1 ≠ 4)
  | none => false) = true := by decide +kernel
theorem kind_ne {i : Nat} {q : MRow} (hq : MT[i]? = some q) (hi : i < 257) : q.2.2.2.2.2.2.1 ≠ 4 := by
  have h := List.all_eq_true.mp kind_ne4 i (List.mem_range.mpr hi)
  rw [hq] at h
  exact of_decide_eq_true h
theorem sl_len : ∀ As : List Value, (lg_sl As).length = (As.map Value.category).sum
  | [] => rfl
  | v :: r => by
    have h := sl_len r
    unfold lg_sl at h ⊢
    rw [List.flatMap_cons, List.length_append, h, List.map_cons, List.sum_cons]
    by_cases hv : v.category = 2
    · simp [hv]
    · have h1 : v.category = 1 := by cases v <;> first | rfl | exact absurd rfl hv
      simp [h1]
theorem mml_eq {i : Nat} {q : MRow} (hq : MT[i]? = some q) : mml i = q.2.2.1 := by unfold mml; rw [hq]
theorem throw_at {own : String} {ik : Nat} {bytes : ByteArray} {pc : Nat} {z : Nat × Nat × Nat} (h : siteOf own ik bytes pc = some z) : own = "TerraceRain" ∧ z.2.2 < 6 ∧ z.1 = sixI z.2.2 ∧ decode bytes (pc + 3) = .ok (.dup, 1) ∧ decode bytes (pc + 4) = .ok (.ldc z.1, 2) ∧ decode bytes (pc + 6) = .ok (.invokespecial z.2.1, 3) ∧ decode bytes (pc + 9) = .ok (.athrow, 1) := by
  unfold siteOf at h
  split at h
  · rename_i ho
    split at h
    · rename_i is ic h1 h2 h3 h4
      refine ⟨ho, ?_⟩
      by_cases e0 : is = 73
      · rw [if_pos e0] at h
        cases h
        exact ⟨Nat.le_of_ble_eq_true rfl, e0, h1, h2, h3, h4⟩
      by_cases e1 : is = 83
      · rw [if_neg e0, if_pos e1] at h
        cases h
        exact ⟨Nat.le_of_ble_eq_true rfl, e1, h1, h2, h3, h4⟩
      by_cases e2 : is = 244
      · rw [if_neg e0, if_neg e1, if_pos e2] at h
        cases h
        exact ⟨Nat.le_of_ble_eq_true rfl, e2, h1, h2, h3, h4⟩
      by_cases e3 : is = 156
      · rw [if_neg e0, if_neg e1, if_neg e2, if_pos e3] at h
        cases h
        exact ⟨Nat.le_of_ble_eq_true rfl, e3, h1, h2, h3, h4⟩
      by_cases e4 : is = 247
      · rw [if_neg e0, if_neg e1, if_neg e2, if_neg e3, if_pos e4] at h
        cases h
        exact ⟨Nat.le_of_ble_eq_true rfl, e4, h1, h2, h3, h4⟩
      by_cases e5 : is = 249
      · rw [if_neg e0, if_neg e1, if_neg e2, if_neg e3, if_neg e4, if_pos e5] at h
        cases h
        exact ⟨Nat.le_of_ble_eq_true rfl, e5, h1, h2, h3, h4⟩
      rw [if_neg e0, if_neg e1, if_neg e2, if_neg e3, if_neg e4, if_neg e5] at h
      cases h
    · cases h
  · cases h
theorem exc_ini {a : Nat} (h : a < 3) : Cond.initialized (excN a) ∈ GWL := by
  match a, h with
  | 0, _ => exact gwl_of (k := 55) (by decide +kernel) rfl
  | 1, _ => exact gwl_of (k := 56) (by decide +kernel) rfl
  | 2, _ => exact gwl_of (k := 57) (by decide +kernel) rfl
theorem exc_fit {a : Nat} (h : a < 3) : Bundle.fit (excN a) = true := by
  match a, h with
  | 0, _ => decide +kernel
  | 1, _ => decide +kernel
  | 2, _ => decide +kernel
set_option maxHeartbeats 1000000 in
set_option maxRecDepth 20000 in
theorem snd_HT {p : Program} {l : Launch} {e : Env} {s : State} {m : MethodId} {As : List Value} {below : List Frame} {meth : Method} {cd : Code} {E : MEnv} {D : va_G} {G : Nat → ClassId} {τ : MTau} {d' c n : Nat} {q : MRow} {Q : MPost} (F : FX p l (mrm (d' + 1) c n) s m As.toArray meth cd E D G τ (d' + 1) c n q) (hlocks : meth.locks = false) : HTp p l e (mrm (d' + 1) c n) s m As.toArray below meth cd D G τ c n q Q (vx_MQ below (mQc D G Q τ s.heap.size) (mXC D G Q τ s.heap.size) As.toArray s c n (mA τ s.heap.size)) := by
  obtain ⟨hx, hb, hml, hown, hts, hKK, hEE, hRf, hRl, hCc, hSs, hinit, htab, hfl⟩ := F
  intro idx l9 a w r st pc la τ' μ' H locs k j hck hQ hM' hE' hS' hk hj h4 hsize
  have hd := chk_dec hck
  obtain ⟨rfl, hr⟩ := len_of (and_tt hck).2
  obtain ⟨h123, hsite⟩ := and_tt hr
  obtain ⟨h12, hemp⟩ := and_tt h123
  obtain ⟨hlk, ha3⟩ := and_tt h12
  have ha3 := of_decide_eq_true ha3
  split at hsite
  · rename_i z hz
    obtain ⟨ho, hz6, hzi, g1, g2, g3, g4⟩ := throw_at hz
    obtain ⟨sa, hsa⟩ := hKK.2.2.2.2.1 z.2.2 hz6
    have hall : ∀ w ∈ vx_atS q.1.cls z.2.1 (excN a) excNames, w ∈ lw_tb2 ∧ (goodWord w = true ∨ nwK w = true) ∧ vx_ot w = true := by
      intro w hw
      have h9 := List.all_eq_true.mp hsite w hw
      simp only [Bool.and_eq_true, Bool.or_eq_true, decide_eq_true_eq] at h9
      exact ⟨h9.1.1, h9.1.2, h9.2⟩
    have hat : ∀ w ∈ vx_atS q.1.cls z.2.1 (excN a) excNames, w.before As.toArray s = true := by
      intro w hw
      obtain ⟨g5, g6, g7⟩ := hall w hw
      rcases g6 with g6 | g6
      · exact hts _ (gwl_in g5 g6)
      · have g8 := hKK.2.1 w (List.mem_filter.mpr ⟨g5, g6⟩)
        refine va_Nw.use ?_ g8
        cases w <;> first | rfl | cases g6
    have hemp : q.2.2.2.2.1 = [] := List.isEmpty_iff.mp hemp
    have hini := exc_ini ha3
    have hfit := exc_fit ha3
    refine vx_throwS (own := q.1.cls) (cls := excN a) (text := sixT z.2.2) (names := excNames) (ik := idx) (is := z.1) (ic := z.2.1) (sa := sa) (A := mA τ s.heap.size) hx hb hfl.1 hown hfit (by decide +kernel) (hts _ (isGW_in hlk)) (hts _ hini) (by rw [ho, hzi]; exact hsa) hat ?_ hEE.2.2.2.2.1 hEE.2.2.2.2.2 hS' (by rw [hsize, hml]) hd g1 g2 g3 g4 (by rw [htab, hemp]; intro x hx; cases hx) (by rw [mrm_f]; show 2 + 3 < _; omega) (by have := cat_sum st; rw [mrm_l]; show _ + (13 * (2 + 1) + 43) ≤ _; omega) hk hj hlocks (fun t _ hz1 hz2 => ?_) hS'.2.2 hk hj
    · intro w hw
      rcases List.mem_cons.mp hw with h9 | h9
      · rw [h9]; rfl
      · rcases List.mem_cons.mp h9 with h9 | h9
        · rw [h9]; rfl
        · exact (hall w h9).2.2
    · have hF : va_F (mA τ s.heap.size) s t := ⟨Nat.le_trans hS'.1 hz1, fun q h1 h2 => (hz2 q (Nat.lt_of_lt_of_le h1 hS'.1)).trans (hS'.2.1 q h1 h2)⟩
      refine ⟨⟨τ', μ', a, ha3, rfl, hQ, ?_, hE'⟩, hF⟩
      intro o x hx
      have hlt := hM'.lt hx
      have h9 := hM' o x hx
      cases x with
      | inl ci =>
        obtain ⟨t9, h1, h2⟩ := h9
        exact ⟨t9, h1, h2.kept (hz2 o hlt)⟩
      | inr y => exact ⟨h9.1, (hz2 o hlt).trans h9.2⟩
  · cases hsite
set_option maxHeartbeats 8000000 in
set_option maxRecDepth 20000 in
theorem snd_all : ∀ d, Snd d := by
  intro d
  induction d with
  | zero => intro i q hq hi E As τ c n μ Q h; exact h.elim
  | succ d' ih =>
    intro i q hq hi E As τ c n μ Q h l D G sz hfl
    obtain ⟨hlen, hwp⟩ := h
    obtain ⟨r1, r2, r3, r4, r5, r6⟩ := row_ok hq hi (kind_ne hq hi)
    refine MetFree.of_bodySF (code := q.2.1) (maxLocals := q.2.2.1) (ret := q.2.2.2.1) r6 ?_ ?_
    · intro args s m hpre hn
      have hw : (mcw q).before args s = true := atoms_spec (ws := mws q) hpre _ List.mem_cons_self
      by_cases hh : q.2.2.2.2.1 = []
      · rw [mcw_nil hh] at hw
        obtain ⟨meth, c, h1, h2, h3, h4, h5, h6, -, -⟩ := Cond.code_spec hn hw
        exact ⟨meth, c, h1, h2, h3, h4, h5, h6⟩
      · rw [mcw_cons hh] at hw
        obtain ⟨m9, meth, c, hn9, h1, h2, h3, h4, -, h5, h6, -⟩ := Cond.codeWith_spec hw
        cases hn.symm.trans hn9
        exact ⟨meth, c, h1, h2, h3, h4, h5, h6⟩
    · intro p e s m args below meth cd s₁ B hml hP _
      have hh0 : s₁.heap = s.heap := by rw [B.state]; rfl
      obtain ⟨rfl, hsz, hM, hKK, hEE⟩ := hP
      subst hsz
      have hts0 : ∀ w ∈ mws q, w.before As.toArray s = true := atoms_spec (ws := mws q) B.pre
      have hts : ∀ w ∈ GWL, w.before As.toArray s = true := fun w hw => hts0 _ (List.mem_cons_of_mem _ hw)
      have hw0 := hts0 _ List.mem_cons_self
      have htab : cd.exceptionTable.toList = tableOf q.2.2.2.2.1 := by
        by_cases hh : q.2.2.2.2.1 = []
        · rw [mcw_nil hh] at hw0
          obtain ⟨meth9, c9, h1, h2, -, -, -, -, h7, -⟩ := Cond.code_spec B.named hw0
          cases Option.some.inj (h1.symm.trans B.method)
          cases Option.some.inj (h2.symm.trans (Stand.of_body B).code)
          rw [hh, Array.isEmpty_iff.mp h7]
          rfl
        · rw [mcw_cons hh] at hw0
          exact vx_table (x := q.1) B hw0
      have hlocks := B.notSynchronized
      have hret := B.returns
      have F : FX p l (mrm (d' + 1) c n) s m As.toArray meth cd E D G τ (d' + 1) c n q := ⟨B.exec, B.bytes, hml, findClass_of_methodNamed B.named, hts, hKK, hEE, Nat.le_refl _, Nat.le_refl _, Nat.le_refl _, Nat.le_refl _, fun z => (name_of_methodNamed B.named B.method).1.trans z, htab, hfl⟩
      have HX : HXp p l e (mrm (d' + 1) c n) s m As.toArray below meth cd D G τ c n q Q (vx_MQ below (mQc D G Q τ s.heap.size) (mXC D G Q τ s.heap.size) As.toArray s c n (mA τ s.heap.size)) := by
        intro a τ' μ' H locs k j pc la st qq ce hh ha hQ hM' hE' hS' hce hcv hcl hk hj
        refine vx_out (by rw [htab, hh]; intro x hx; cases hx) hlocks hce hcv hcl (fun t ht _ => ?_) hS'.2.2 hk hj
        exact ⟨⟨τ', μ', a, ha, rfl, hQ, by rw [ht]; exact hM', hE'⟩, hS'.F ht⟩
      have HR : HRp p l e (mrm (d' + 1) c n) s m As.toArray below meth cd D G τ c n q Q (vx_MQ below (mQc D G Q τ s.heap.size) (mXC D G Q τ s.heap.size) As.toArray s c n (mA τ s.heap.size)) := by
        intro ins st v pc la τ' μ' H locs k j hri hd hQ hM' hE' hS' hk hj
        refine W.widen (k := c) (n := n) hk hj ?_
        refine vx_ret ?_
        have fin : ∀ t : State, t.heap = H → s.WarmedH t.vm → mQc D G Q τ s.heap.size As.toArray s (.returned v) t := fun t ht _ => ⟨⟨v, τ', μ', rfl, hQ, by rw [ht]; exact hM', hE'⟩, hS'.F ht⟩
        rcases hri with ⟨rfl, x, ty, rfl, rfl, h1, h2⟩ | ⟨rfl, x, rfl, rfl, h1⟩ | ⟨rfl, x, rfl, rfl, h1⟩ | ⟨rfl, u, ty, rfl, rfl, h0, h1, h2⟩ | ⟨rfl, rfl, rfl, h1⟩
        · exact W.zret B.exec B.bytes (hret.trans h1) h2 fin hS'.2.2 hd
        · exact W.lret B.exec B.bytes (hret.trans h1) fin hS'.2.2 hd
        · exact W.dret B.exec B.bytes (hret.trans h1) fin hS'.2.2 hd
        · exact W.aret B.exec B.bytes (hret.trans h1) (by cases ty <;> first | exact Or.inl ⟨_, rfl⟩ | exact Or.inr ⟨_, rfl⟩ | cases h2) h0 fin hS'.2.2 hd
        · exact W.vret B.exec B.bytes (hret.trans h1) fin hS'.2.2 hd
      have HT := snd_HT (Q := Q) (below := below) (e := e) F hlocks
      have key := hwp (MWp p l e (mrm (d' + 1) c n) s m As.toArray below meth cd D G τ q.2.2.1 c n (vx_MQ below (mQc D G Q τ s.heap.size) (mXC D G Q τ s.heap.size) As.toArray s c n (mA τ s.heap.size))) (fun pc ls st τ' c' n' μ' hx => by
        cases hc : COD i pc with
        | none => rw [hc] at hx; exact hx.elim
        | some x =>
          rw [hc] at hx
          exact snd_main F rfl ih hq HX HR HT (chk_at hq (by omega) hc) hx) (fun pc ls ls' st τ' c' n' μ' hsub hx H locs la k j hl h1 h2 h3 h4 h5 => hx H locs la k j ⟨hl.1, hl.2.1, fun z hz => hl.2.2 z (hsub z hz)⟩ h1 h2 h3 h4 h5)
      have hl := lv_entry As (n := q.2.2.1) (by rw [sl_len, ← mml_eq hq]; exact hlen)
      have K : W p l e (mrm (d' + 1) c n) s m As.toArray below meth cd s.heap [] 0 0 (vx_MQ below (mQc D G Q τ s.heap.size) (mXC D G Q τ s.heap.size) As.toArray s c n (mA τ s.heap.size)) (entryFrame m As.toArray q.2.2.1) := by
        rw [lg_entry_eq]
        exact key s.heap [] _ 0 0 hl hM mExt.rfl' va_S.rf (Nat.zero_add _) (Nat.zero_add _)
      obtain ⟨t, a1, o, b1, b2, b3⟩ := K s₁ hh0 (Stand.of_body B)
      exact ⟨t, o, a1, b1, b2, b3⟩
