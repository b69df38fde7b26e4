/-! texts being built: what stays, the law's own texts -/
theorem SV.ext {E : MEnv} {τ τ' : MTau} {μ μ' : MMu} {s sb : Nat} {v : List Nat} (hT : TX E τ τ') (hk : ∀ z, τ z ≠ none → μ' z = μ z) (hS : SV E τ μ s sb v) : SV E τ' μ' s sb v := by
  obtain ⟨g1, g2, g3⟩ := hS
  have keep : ∀ z, τ z = none → (∃ q, E.2.1 z = some q) ∨ (∃ q, E.2.2.2 z = some q) → τ' z = none := by
    intro z hz hq
    cases hx : τ' z with
    | none => rfl
    | some x =>
      rcases hT.2 z (by rw [hx]; simp) with h9 | ⟨m1, m2, -⟩
      · exact absurd hz h9
      · rcases hq with ⟨q, hq⟩ | ⟨q, hq⟩
        · rw [m1] at hq; cases hq
        · rw [m2] at hq; cases hq
  rcases g3 with ⟨a1, a2, a3, f, a4, a5, a6, a7⟩ | ⟨a1, a2, a3, a4, a5⟩
  · exact ⟨g1, g2, Or.inl ⟨keep s a1 (Or.inr ⟨_, a2⟩), a2, a3, f, a4, keep sb a5 (Or.inl ⟨_, a6⟩), a6, a7⟩⟩
  · have e1 := hk s (by rw [a1]; simp)
    have e2 := hk sb (by rw [a4]; simp)
    exact ⟨g1, g2, Or.inr ⟨by rw [hT.1 s (by rw [a1]; simp)]; exact a1, by rw [e1]; exact a2, by rw [e1]; exact a3, by rw [hT.1 sb (by rw [a4]; simp)]; exact a4, by rw [e2]; exact a5⟩⟩
/-- the law's text number k: its bytes -/
def LSB : List (List Nat) := [[116, 101, 114, 114, 97, 99, 101, 115, 32], [59], [10], [114, 97, 105, 110, 32], [], [100, 97, 121, 32], [112, 117, 115, 104, 101, 115, 32], [119, 97, 116, 101, 114, 32], [104, 105, 103, 104, 101, 115, 116, 32], [108, 111, 119, 101, 115, 116, 32], [119, 97, 105, 116, 105, 110, 103, 32], [43], [45], [42], [47], [109, 105, 110, 40], [109, 97, 120, 40], [60], [62], [61], [60, 61], [62, 61], [32], [104, 101, 105, 103, 104, 116, 40], [45, 32, 40], [41], [40], [44], [110, 111, 116, 91], [93], [91], [97, 110, 100], [111, 114], [108, 101, 118, 101, 108, 32], [108, 111, 111, 107, 32], [102, 114, 111, 109, 32], [116, 111, 32], [], [119, 104, 101, 110, 32], [59]]
def LTX (E : MEnv) (τ : MTau) : Prop := ∀ k w, LSB[k]? = some w → ∃ o b, E.1 (100 + k) = .ref o ∧ τ b = none ∧ ∀ μ, SV E τ μ o b w
theorem LTX.ext {E : MEnv} {τ τ' : MTau} (hT : TX E τ τ') (h : LTX E τ) : LTX E τ' := fun k w hw => by
  obtain ⟨o, b, h1, h2, h3⟩ := h k w hw
  refine ⟨o, b, h1, ?_, fun μ => (h3 μ).ext hT (fun _ _ => rfl)⟩
  rcases (h3 (fun _ _ => .null)).2.2 with ⟨-, -, -, f, -, a5, a6, -⟩ | ⟨-, -, -, a4, -⟩
  · cases hx : τ' b with
    | none => rfl
    | some x =>
      rcases hT.2 b (by rw [hx]; simp) with h9 | ⟨m1, -, -⟩
      · exact absurd a5 h9
      · rw [m1] at a6; cases a6
  · rw [h2] at a4; cases a4
/-- since the entry: new cells alone -/
def NW (E : MEnv) (τ0 : MTau) (μ0 : MMu) (τ : MTau) (μ : MMu) : Prop := TX E τ0 τ ∧ ∀ z, τ0 z ≠ none → μ z = μ0 z
theorem NW.rfl' {E : MEnv} {τ : MTau} {μ : MMu} : NW E τ μ τ μ := ⟨⟨fun _ _ => rfl, fun _ h => Or.inl h⟩, fun _ _ => rfl⟩
theorem TX.no {E : MEnv} {τ τ' : MTau} {z : Nat} (h : TX E τ τ') (hz : τ z ≠ none) : τ' z ≠ none := by rw [h.1 z hz]; exact hz
theorem NW.trans {E : MEnv} {τ0 τ τ' : MTau} {μ0 μ μ' : MMu} (h1 : NW E τ0 μ0 τ μ) (h2 : NW E τ μ τ' μ') : NW E τ0 μ0 τ' μ' := ⟨h1.1.trans h2.1, fun z hz => by rw [h2.2 z (h1.1.no hz), h1.2 z hz]⟩
theorem NW.new {E : MEnv} {τ : MTau} {μ : MMu} {z : Nat} {x : Nat ⊕ (Nat × Nat)} {f : Nat → Value} (hz : mfr E τ z) : NW E τ μ (tset τ z x) (mrow μ z f) := ⟨TX.new hz, fun y hy => by
  have : y ≠ z := fun e => hy (by rw [e]; exact hz.1)
  funext k
  simp [mrow, this]⟩
/-- a builder that is new since the entry -/
def BST (E : MEnv) (τ0 : MTau) (μ0 : MMu) (τ : MTau) (μ : MMu) (o b : Nat) (w : List Nat) : Prop := NW E τ0 μ0 τ μ ∧ SBR τ μ o b w ∧ τ0 o = none ∧ τ0 b = none
theorem SBR.ext {E : MEnv} {τ τ' : MTau} {μ μ' : MMu} {o b : Nat} {w : List Nat} (hN : NW E τ μ τ' μ') (h : SBR τ μ o b w) : SBR τ' μ' o b w := by
  obtain ⟨cap, ⟨a1, a2, a3, a4, a5, a6⟩, hc⟩ := h
  have e1 := hN.2 o (by rw [a1]; simp)
  have e2 := hN.2 b (by rw [a5]; simp)
  exact ⟨cap, ⟨by rw [hN.1.1 o (by rw [a1]; simp)]; exact a1, by rw [e1]; exact a2, by rw [e1]; exact a3, by rw [e1]; exact a4, by rw [hN.1.1 b (by rw [a5]; simp)]; exact a5, by rw [e2]; exact a6⟩, hc⟩
theorem BST.ext {E : MEnv} {τ0 τ τ' : MTau} {μ0 μ μ' : MMu} {o b : Nat} {w : List Nat} (hN : NW E τ μ τ' μ') (h : BST E τ0 μ0 τ μ o b w) : BST E τ0 μ0 τ' μ' o b w := ⟨h.1.trans hN, h.2.1.ext hN, h.2.2.1, h.2.2.2⟩
theorem BST.ro {E : MEnv} {τ0 τ : MTau} {μ0 μ : MMu} {o b : Nat} {w : List Nat} (h : BST E τ0 μ0 τ μ o b w) : recv E τ o 11 := Or.inl h.2.1.choose_spec.1.1
theorem BST.bo {E : MEnv} {τ0 τ : MTau} {μ0 μ : MMu} {o b : Nat} {w : List Nat} (h : BST E τ0 μ0 τ μ o b w) : τ b ≠ none := by rw [h.2.1.choose_spec.1.2.2.2.2.1]; simp
theorem TX.nn2 {E : MEnv} {τ τ' : MTau} {z : Nat} (h : TX E τ τ') (hz : τ' z = none) : τ z = none := by
  cases hx : τ z with
  | none => rfl
  | some x =>
    have := h.1 z (by rw [hx]; simp)
    rw [hz, hx] at this
    cases this
theorem BST.sf {E : MEnv} {τ0 τ τ' : MTau} {μ0 μ μ' : MMu} {o b b' : Nat} {w w' : List Nat} (h : BST E τ0 μ0 τ μ o b w) (hB : SBR τ' μ' o b' w') (hF : SF E o b b' τ μ τ' μ') : BST E τ0 μ0 τ' μ' o b' w' := by
  obtain ⟨⟨h1, h2⟩, h3, h4, h5⟩ := h
  obtain ⟨f1, f2, f3⟩ := hF
  refine ⟨⟨h1.trans f1, fun z hz => ?_⟩, hB, h4, ?_⟩
  · rw [f2 z (h1.no hz) (fun e => hz (by rw [e]; exact h4)) (fun e => hz (by rw [e]; exact h5)), h2 z hz]
  · rcases f3 with f3 | ⟨f3, -⟩
    · rw [f3]; exact h5
    · exact h1.nn2 f3
/-- a text is appended to a new builder -/
theorem bApp {E : MEnv} {d : Nat} {τ0 τ : MTau} {μ0 μ : MMu} {Q : MPost} {o b s sb R : Nat} {w v : List Nat} (hd : 7 ≤ d) (hJ : JE E τ0) (hB : BST E τ0 μ0 τ μ o b w) (hS : SV E τ μ s sb v) (hne : sb ≠ b) (hl : w.length + v.length < 1200) (hR : 4 * (w.length + v.length) + 40 ≤ R) (hQ : ∀ τ' μ' b', BST E τ0 μ0 τ' μ' o b' (w ++ v) → Q (.inl (some (.ref o))) τ' μ') : mwp E d 163 [.ref o, .ref s] τ 1 R μ Q :=
  w_appS hd (hJ.step hB.1.1) hB.2.1 hS hne hl hR fun τ' μ' b' g1 g2 => hQ τ' μ' b' (hB.sf g1 g2)
theorem bAppI {E : MEnv} {d : Nat} {τ0 τ : MTau} {μ0 μ : MMu} {Q : MPost} {o b n R : Nat} {w : List Nat} (hd : 7 ≤ d) (hJ : JE E τ0) (hn : n < 1000000) (hB : BST E τ0 μ0 τ μ o b w) (hl : w.length < 1190) (hR : 4 * w.length + 64 ≤ R) (hQ : ∀ τ' μ' b', BST E τ0 μ0 τ' μ' o b' (w ++ dig n) → Q (.inl (some (.ref o))) τ' μ') : mwp E d 164 [.ref o, .int (nI n)] τ 1 R μ Q :=
  w_appI hd (hJ.step hB.1.1) hn hB.2.1 hl hR fun τ' μ' b' g1 g2 => hQ τ' μ' b' (hB.sf g1 g2)
/-- one of the law's own texts is appended -/
theorem bAppC {E : MEnv} {d : Nat} {τ0 τ : MTau} {μ0 μ : MMu} {Q : MPost} {o b s sb R : Nat} {w v : List Nat} (hd : 7 ≤ d) (hJ : JE E τ0) (hB : BST E τ0 μ0 τ μ o b w) (hb : τ0 sb = none) (hS : ∀ μ, SV E τ0 μ s sb v) (hl : w.length + v.length < 1200) (hR : 4 * (w.length + v.length) + 40 ≤ R) (hsb : (∃ q, E.2.1 sb = some q)) (hQ : ∀ τ' μ' b', BST E τ0 μ0 τ' μ' o b' (w ++ v) → Q (.inl (some (.ref o))) τ' μ') : mwp E d 163 [.ref o, .ref s] τ 1 R μ Q := by
  refine bApp hd hJ hB ((hS μ0).ext hB.1.1 hB.1.2) (fun e => ?_) hl hR hQ
  have h1 := hB.bo
  obtain ⟨q, hq⟩ := hsb
  rcases hB.1.1.2 b h1 with h9 | ⟨m1, -, -⟩
  · exact h9 hB.2.2.2
  · rw [e, m1] at hq; cases hq
theorem SVc {E : MEnv} {τ : MTau} {s sb : Nat} {v : List Nat} (hb : τ sb = none) (hS : ∀ μ, SV E τ μ s sb v) : ∃ q, E.2.1 sb = some q := by
  rcases (hS (fun _ _ => .null)).2.2 with ⟨-, -, -, f, -, a5, a6, -⟩ | ⟨-, -, -, a4, -⟩
  · exact ⟨_, a6⟩
  · rw [hb] at a4; cases a4
/-- the new builder itself -/
theorem bNew {E : MEnv} {d : Nat} {τ0 τ : MTau} {μ0 μ : MMu} {Q : MPost} {o : Nat} (hd : 3 ≤ d) (hJ : JE E τ0) (hN : NW E τ0 μ0 τ μ) (ho : mfr E τ o) (hQ : ∀ τ' μ' b, BST E τ0 μ0 τ' μ' o b [] → NW E τ μ τ' μ' → Q (.inl none) τ' μ') : mwp E d 162 [.ref o] (tset τ o (.inl 11)) 1 16 (mrow μ o (dflt 11)) Q := by
  have hn : NW E τ μ (tset τ o (.inl 11)) (mrow μ o (dflt 11)) := NW.new ho
  refine w_initSB hd ((hJ.step hN.1).step hn.1) (by simp [tset]) (fun k => by simp [mrow]) fun τ' μ' b g1 g2 g3 g4 g5 => ?_
  have h2 : NW E τ μ τ' μ' := ⟨hn.1.trans g2, fun z hz => by
    have hzo : z ≠ o := fun e => hz (by rw [e]; exact ho.1)
    rw [g3 z (hn.1.no hz) hzo, hn.2 z hz]⟩
  exact hQ τ' μ' b ⟨hN.trans h2, g1, hN.1.nn2 ho.1, hN.1.nn2 (hn.1.nn2 g4)⟩ h2
/-- toString of a new builder -/
theorem bStr {E : MEnv} {d : Nat} {τ0 τ : MTau} {μ0 μ : MMu} {Q : MPost} {o b : Nat} {w : List Nat} (hd : 7 ≤ d) (hJ : JE E τ0) (hB : BST E τ0 μ0 τ μ o b w) (hl : w.length < 1200) (hQ : ∀ τ' μ' s sb, SV E τ' μ' s sb w → τ' s = some (.inl 12) → τ sb = none → NW E τ μ τ' μ' → Q (.inl (some (.ref s))) τ' μ') : mwp E d 165 [.ref o] τ 2 1500 μ Q :=
  w_toString hd (hJ.step hB.1.1) hB.2.1 hl fun τ' μ' s sb g1 g2 g3 g4 g5 g6 => hQ τ' μ' s sb g1 g2 g6 ⟨g3, g4⟩
