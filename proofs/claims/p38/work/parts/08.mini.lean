/-! THE SMALL MACHINE: one step of a method's code over a small heap (tau: which cells there are, mu: what they hold), as a transformer of predicates -/
abbrev MTau : Type := Nat → Option (Nat ⊕ (Nat × Nat))
abbrev MMu : Type := Nat → Nat → Value
abbrev MOut : Type := Option Value ⊕ String
abbrev MPost : Type := MOut → MTau → MMu → Prop
abbrev MLoc : Type := List (Nat × Value)
abbrev MCal : Type := Nat → List Value → MTau → Nat → Nat → MMu → MPost → Prop
abbrev MP : Type := Nat → MLoc → List Value → MTau → Nat → Nat → MMu → Prop
abbrev MEnv : Type := (Nat → Value) × (Nat → Option (Nat × Nat × (Nat → Value))) × (Nat → Nat → Nat → Option Value) × (Nat → Option Nat)
def lget : MLoc → Nat → Option Value
  | [], _ => none
  | (j, v) :: r, k => if j = k then some v else lget r k
def ldel1 (k : Nat) : MLoc → MLoc
  | [] => []
  | (j, v) :: r => if j = k ∨ (j + 1 = k ∧ v.category = 2) then ldel1 k r else (j, v) :: ldel1 k r
def ldel2 (k : Nat) : MLoc → MLoc
  | [] => []
  | (j, v) :: r => if j = k ∨ j = k + 1 ∨ (j + 1 = k ∧ v.category = 2) then ldel2 k r else (j, v) :: ldel2 k r
def mset (μ : MMu) (o k : Nat) (v : Value) : MMu := fun o' k' => if o' = o ∧ k' = k then v else μ o' k'
def mrow (μ : MMu) (o : Nat) (f : Nat → Value) : MMu := fun o' k' => if o' = o then f k' else μ o' k'
def tset (τ : MTau) (o : Nat) (x : Nat ⊕ (Nat × Nat)) : MTau := fun o' => if o' = o then some x else τ o'
def isI : Value → Bool
  | .int _ => true
  | _ => false
def isL : Value → Bool
  | .long _ => true
  | _ => false
def isD : Value → Bool
  | .double _ => true
  | _ => false
def isA : Value → Bool
  | .ref _ => true
  | .null => true
  | _ => false
def xload (ok : Value → Bool) (P : MP) (pc : Nat) (k : Nat) (ls : MLoc) (st : List Value) (τ : MTau) (c n : Nat) (μ : MMu) : Prop := match lget ls k with
  | some v => ok v = true ∧ P pc ls (v :: st) τ c n μ
  | none => False
def fget (E : MEnv) (τ : MTau) (μ : MMu) (o a b : Nat) : Option Value := match τ o with
  | some (.inl q) => if q = a then some (μ o b) else none
  | some (.inr _) => none
  | none => E.2.2.1 o a b
/-- a cell that is new: neither the program's nor a constant's -/
def mfr (E : MEnv) (τ : MTau) (o : Nat) : Prop := τ o = none ∧ E.2.1 o = none ∧ E.2.2.2 o = none ∧ ∀ a b, E.2.2.1 o a b = none
/-- an array that can be read: kind, length, contents -/
def aget (E : MEnv) (τ : MTau) (μ : MMu) (o : Nat) : Option (Nat × Nat × (Nat → Value)) := match τ o with
  | some (.inl _) => none
  | some (.inr q) => some (q.1, q.2, μ o)
  | none => E.2.1 o
def xald (tags : Nat → Bool) (E : MEnv) (P : MP) (pc : Nat) (ls : MLoc) (st : List Value) (τ : MTau) (c n : Nat) (μ : MMu) : Prop := match st with
  | .int i :: .ref o :: r => (match aget E τ μ o with
    | some (t, N, f) => tags t = true ∧ vp_in i N ∧ P pc ls (f i.toNatClampNeg :: r) τ c n μ
    | none => False)
  | _ => False
/-- what a field or an array of a type keeps -/
def pfit (t : FieldType) (v : Value) : Prop := narrow t v = v ∧ fits t v = true
def popN : Nat → List Value → List Value → Option (List Value × List Value)
  | 0, acc, st => some (acc, st)
  | n + 1, acc, v :: st => popN n (v :: acc) st
  | _ + 1, _, [] => none
def mrow? (i : Nat) : Option MRow := MT[i]?
/-- no method here catches anything -/
def hnd (_ _ : Nat) (_ : String) : Nat ⊕ Bool := .inr true
def xback (hd : String → Nat ⊕ Bool) (Q : MPost) (P : MP) (pc : Nat) (ls : MLoc) (r : List Value) (c n : Nat) : MPost := fun o τ μ => match o with
  | .inl v => P pc ls (v.toList ++ r) τ c n μ
  | .inr e => match hd e with
    | .inl h => ∀ q : Nat, P h ls [.ref q] τ c n μ
    | .inr true => Q (.inr e) τ μ
    | .inr false => False
def xcall (cal : MCal) (hd : String → Nat ⊕ Bool) (Q : MPost) (P : MP) (pc : Nat) (ls : MLoc) (r : List Value) (τ : MTau) (c n : Nat) (μ : MMu) (a : Nat) (As : List Value) : Prop :=
  r.length ≤ 4 ∧ ∃ c1 n1 c2 n2 : Nat, c = c1 + c2 ∧ n = n1 + n2 ∧ cal a As τ c1 n1 μ (xback hd Q P pc ls r c2 n2)
def recv (E : MEnv) (τ : MTau) (o q : Nat) : Prop := τ o = some (.inl q) ∨ (τ o = none ∧ E.2.2.2 o = some q)
/-- what an array of references keeps -/
def elOK (E : MEnv) (τ : MTau) (t x : Nat) : Prop := match t with
  | 4 => τ x = some (.inl 0)
  | 6 => recv E τ x 12
  | 7 => ∃ N : Nat, τ x = some (.inr (0, N))
  | 8 => τ x = some (.inl 8)
  | _ => False
def swL (P : Nat → Prop) (x : Int32) (pc : Nat) : Int → List Int → Prop
  | _, [] => True
  | k, o :: r => (x.toInt = k → P (tgOf pc o)) ∧ swL P x pc (k + 1) r
def swP (P : Nat → Prop) (x : Int32) (pc : Nat) : List (Int × Int) → Prop
  | [] => True
  | (k, o) :: r => (x.toInt = k → P (tgOf pc o)) ∧ swP P x pc r
def tag0 (t : Nat) : Value := match t with
  | 1 => .long 0
  | 4 => .null
  | _ => .int 0
def dflt (a : Nat) (k : Nat) : Value := defaultValue (fty a k)
/-- what a method of a small type may return (0 int, 1 boolean, 2 byte, 3 char) -/
def rfit (r : Nat) (x : Int32) : Prop := match r with
  | 0 => True
  | 1 => x = 0 ∨ x = 1
  | 2 => x.toInt8.toInt32 = x
  | 3 => (x.toUInt32 % 65536).toInt32 = x
  | _ => False
def exI (E : MEnv) (cal : MCal) (Q : MPost) (i : Nat) (P : MP) (pc : Nat) (ls : MLoc) (st : List Value) (τ : MTau) (c n : Nat) (μ : MMu) : Option MEn → Prop
  | none => False
  | some (ins, l, a, b, w, r) => match ins with
    | .iconst k => P (pc + 1) ls (.int (Int32.ofInt k) :: st) τ c n μ
    | .bipush k => P (pc + 2) ls (.int (Int8.ofInt k).toInt32 :: st) τ c n μ
    | .sipush k => P (pc + 3) ls (.int (Int16.ofInt k).toInt32 :: st) τ c n μ
    | .lconst k => P (pc + 1) ls (.long (Int64.ofNat k.val) :: st) τ c n μ
    | .aconst_null => P (pc + 1) ls (.null :: st) τ c n μ
    | .ldc _ => if a < 100 then a ≤ 4 ∧ P (pc + 2) ls (.int (mInt a) :: st) τ c n μ else P (pc + 2) ls (E.1 a :: st) τ c n μ
    | .ldc2_w _ => P (pc + 3) ls (.long (mLong a) :: st) τ c n μ
    | .iload_n k => xload isI P (pc + 1) k.val ls st τ c n μ
    | .iload k => xload isI P (pc + 2) k ls st τ c n μ
    | .lload_n k => xload isL P (pc + 1) k.val ls st τ c n μ
    | .lload k => xload isL P (pc + 2) k ls st τ c n μ
    | .dload k => xload isD P (pc + 2) k ls st τ c n μ
    | .aload_n k => xload isA P (pc + 1) k.val ls st τ c n μ
    | .aload k => xload isA P (pc + 2) k ls st τ c n μ
    | .istore_n k => (match st with
      | .int x :: q => P (pc + 1) ((k.val, .int x) :: ldel1 k.val ls) q τ c n μ
      | _ => False)
    | .istore k => (match st with
      | .int x :: q => P (pc + 2) ((k, .int x) :: ldel1 k ls) q τ c n μ
      | _ => False)
    | .astore_n k => (match st with
      | .ref x :: q => P (pc + 1) ((k.val, .ref x) :: ldel1 k.val ls) q τ c n μ
      | .null :: q => P (pc + 1) ((k.val, .null) :: ldel1 k.val ls) q τ c n μ
      | _ => False)
    | .astore k => (match st with
      | .ref x :: q => P (pc + 2) ((k, .ref x) :: ldel1 k ls) q τ c n μ
      | .null :: q => P (pc + 2) ((k, .null) :: ldel1 k ls) q τ c n μ
      | _ => False)
    | .lstore_n k => (match st with
      | .long x :: q => P (pc + 1) ((k.val, .long x) :: ldel2 k.val ls) q τ c n μ
      | _ => False)
    | .lstore k => (match st with
      | .long x :: q => P (pc + 2) ((k, .long x) :: ldel2 k ls) q τ c n μ
      | _ => False)
    | .dstore k => (match st with
      | .double x :: q => P (pc + 2) ((k, .double x) :: ldel2 k ls) q τ c n μ
      | _ => False)
    | .iinc k d => (match lget ls k with
      | some (.int x) => P (pc + 3) ((k, .int (x + Int32.ofInt d)) :: ldel1 k ls) st τ c n μ
      | _ => False)
    | .iadd => (match st with
      | .int y :: .int x :: q => P (pc + 1) ls (.int (x + y) :: q) τ c n μ
      | _ => False)
    | .isub => (match st with
      | .int y :: .int x :: q => P (pc + 1) ls (.int (x - y) :: q) τ c n μ
      | _ => False)
    | .imul => (match st with
      | .int y :: .int x :: q => P (pc + 1) ls (.int (x * y) :: q) τ c n μ
      | _ => False)
    | .idiv => (match st with
      | .int y :: .int x :: q => ¬ y = 0 ∧ P (pc + 1) ls (.int (x / y) :: q) τ c n μ
      | _ => False)
    | .irem => (match st with
      | .int y :: .int x :: q => ¬ y = 0 ∧ P (pc + 1) ls (.int (x - x / y * y) :: q) τ c n μ
      | _ => False)
    | .ineg => (match st with
      | .int x :: q => P (pc + 1) ls (.int (-x) :: q) τ c n μ
      | _ => False)
    | .iand => (match st with
      | .int y :: .int x :: q => P (pc + 1) ls (.int (x &&& y) :: q) τ c n μ
      | _ => False)
    | .ior => (match st with
      | .int y :: .int x :: q => P (pc + 1) ls (.int (x ||| y) :: q) τ c n μ
      | _ => False)
    | .ixor => (match st with
      | .int y :: .int x :: q => P (pc + 1) ls (.int (x ^^^ y) :: q) τ c n μ
      | _ => False)
    | .ishr => (match st with
      | .int y :: .int x :: q => P (pc + 1) ls (.int (x >>> (y &&& 31)) :: q) τ c n μ
      | _ => False)
    | .ishl => (match st with
      | .int y :: .int x :: q => P (pc + 1) ls (.int (x <<< (y &&& 31)) :: q) τ c n μ
      | _ => False)
    | .checkcast _ => (match st with
      | .ref o :: q => (∃ N : Nat, τ o = some (.inr (2, N))) ∧ a = 2 ∧ P (pc + 3) ls (.ref o :: q) τ c n μ
      | _ => False)
    | .i2b => (match st with
      | .int x :: q => P (pc + 1) ls (.int x.toInt8.toInt32 :: q) τ c n μ
      | _ => False)
    | .i2c => (match st with
      | .int x :: q => P (pc + 1) ls (.int (x.toUInt32 % 65536).toInt32 :: q) τ c n μ
      | _ => False)
    | .i2l => (match st with
      | .int x :: q => P (pc + 1) ls (.long x.toInt64 :: q) τ c n μ
      | _ => False)
    | .l2i => (match st with
      | .long x :: q => P (pc + 1) ls (.int x.toInt32 :: q) τ c n μ
      | _ => False)
    | .l2d => (match st with
      | .long x :: q => P (pc + 1) ls (.double (FP.l2d x) :: q) τ c n μ
      | _ => False)
    | .i2d => (match st with
      | .int x :: q => P (pc + 1) ls (.double (FP.i2d x) :: q) τ c n μ
      | _ => False)
    | .ladd => (match st with
      | .long y :: .long x :: q => P (pc + 1) ls (.long (x + y) :: q) τ c n μ
      | _ => False)
    | .lsub => (match st with
      | .long y :: .long x :: q => P (pc + 1) ls (.long (x - y) :: q) τ c n μ
      | _ => False)
    | .lmul => (match st with
      | .long y :: .long x :: q => P (pc + 1) ls (.long (x * y) :: q) τ c n μ
      | _ => False)
    | .lcmp => (match st with
      | .long y :: .long x :: q => P (pc + 1) ls (.int (lg_cmp x y) :: q) τ c n μ
      | _ => False)
    | .ddiv => (match st with
      | .double y :: .double x :: q => vf_n64 (FP.ddiv x y) ∧ P (pc + 1) ls (.double (FP.ddiv x y) :: q) τ c n μ
      | _ => False)
    | .dcmp op => (match st with
      | .double y :: .double x :: q => P (pc + 1) ls (.int (Op.cmpValue (FP.dcmp x y) op) :: q) τ c n μ
      | _ => False)
    | .dup => (match st with
      | v :: q => v.category = 1 ∧ P (pc + 1) ls (v :: v :: q) τ c n μ
      | _ => False)
    | .dup2 => (match st with
      | v :: u :: q => v.category = 1 ∧ u.category = 1 ∧ P (pc + 1) ls (v :: u :: v :: u :: q) τ c n μ
      | _ => False)
    | .pop => (match st with
      | v :: q => v.category = 1 ∧ P (pc + 1) ls q τ c n μ
      | _ => False)
    | .goto _ => P a ls st τ c n μ
    | .ifCond cc _ => (match st with
      | .int x :: q => (match cc with
        | .eq => (x = 0 → P a ls q τ c n μ) ∧ (¬ x = 0 → P (pc + 3) ls q τ c n μ)
        | .ne => (¬ x = 0 → P a ls q τ c n μ) ∧ (x = 0 → P (pc + 3) ls q τ c n μ)
        | .lt => (x < 0 → P a ls q τ c n μ) ∧ (¬ x < 0 → P (pc + 3) ls q τ c n μ)
        | .ge => (¬ x < 0 → P a ls q τ c n μ) ∧ (x < 0 → P (pc + 3) ls q τ c n μ)
        | .gt => (0 < x → P a ls q τ c n μ) ∧ (¬ 0 < x → P (pc + 3) ls q τ c n μ)
        | .le => (¬ 0 < x → P a ls q τ c n μ) ∧ (0 < x → P (pc + 3) ls q τ c n μ))
      | _ => False)
    | .if_icmp cc _ => (match st with
      | .int y :: .int x :: q => (match cc with
        | .eq => (x = y → P a ls q τ c n μ) ∧ (¬ x = y → P (pc + 3) ls q τ c n μ)
        | .ne => (¬ x = y → P a ls q τ c n μ) ∧ (x = y → P (pc + 3) ls q τ c n μ)
        | .lt => (x < y → P a ls q τ c n μ) ∧ (¬ x < y → P (pc + 3) ls q τ c n μ)
        | .ge => (¬ x < y → P a ls q τ c n μ) ∧ (x < y → P (pc + 3) ls q τ c n μ)
        | .gt => (y < x → P a ls q τ c n μ) ∧ (¬ y < x → P (pc + 3) ls q τ c n μ)
        | .le => (¬ y < x → P a ls q τ c n μ) ∧ (y < x → P (pc + 3) ls q τ c n μ))
      | _ => False)
    | .ifnull _ => (match st with
      | .null :: q => P a ls q τ c n μ
      | .ref _ :: q => P (pc + 3) ls q τ c n μ
      | _ => False)
    | .ifnonnull _ => (match st with
      | .null :: q => P (pc + 3) ls q τ c n μ
      | .ref _ :: q => P a ls q τ c n μ
      | _ => False)
    | .tableswitch df lo hi offs => (match st with
      | .int x :: q => (x.toInt < lo ∨ hi < x.toInt → P (tgOf pc df) ls q τ c n μ) ∧ swL (fun t => P t ls q τ c n μ) x pc lo offs.toList
      | _ => False)
    | .lookupswitch df ps => (match st with
      | .int x :: q => ((∀ z ∈ ps.toList, x.toInt ≠ z.1) → P (tgOf pc df) ls q τ c n μ) ∧ swP (fun t => P t ls q τ c n μ) x pc ps.toList
      | _ => False)
    | .getfield _ => (match st with
      | .ref o :: q => (match fget E τ μ o a b with
        | some v => P (pc + 3) ls (v :: q) τ c n μ
        | none => False)
      | _ => False)
    | .putfield _ => (match st with
      | v :: .ref o :: q => τ o = some (.inl a) ∧ pfit (fty a b) v ∧ P (pc + 3) ls q τ c n (mset μ o b v)
      | _ => False)
    | .getstatic _ => P (pc + 3) ls (E.1 a :: st) τ c n μ
    | .new _ => (match b with
      | 0 => 1 ≤ c ∧ fnum a ≤ n ∧ ∀ o : Nat, mfr E τ o → P (pc + 3) ls (.ref o :: st) (tset τ o (.inl a)) (c - 1) (n - fnum a) (mrow μ o (dflt a))
      | 1 => 1 ≤ c ∧ 6 ≤ n ∧ st.length ≤ 4 ∧ Q (.inr (excN a)) τ μ
      | _ => False)
    | .newarray t => (match st with
      | .int x :: q => ¬ x < 0 ∧ x.toNatClampNeg ≤ 60000 ∧ 1 ≤ c ∧ x.toNatClampNeg ≤ n ∧ tagOf t ≤ 3 ∧ ∀ o : Nat, mfr E τ o → P (pc + 2) ls (.ref o :: q) (tset τ o (.inr (tagOf t, x.toNatClampNeg))) (c - 1) (n - x.toNatClampNeg) (mrow μ o (fun _ => tag0 (tagOf t)))
      | _ => False)
    | .anewarray _ => (match st with
      | .int x :: q => ¬ x < 0 ∧ x.toNatClampNeg ≤ 60000 ∧ 1 ≤ c ∧ x.toNatClampNeg ≤ n ∧ ∀ o : Nat, mfr E τ o → P (pc + 3) ls (.ref o :: q) (tset τ o (.inr (a, x.toNatClampNeg))) (c - 1) (n - x.toNatClampNeg) (mrow μ o (fun _ => .null))
      | _ => False)
    | .arraylength => (match st with
      | .ref o :: q => (match aget E τ μ o with
        | some (_, N, _) => P (pc + 1) ls (.int (Int32.ofNat N) :: q) τ c n μ
        | none => False)
      | _ => False)
    | .iaload => xald (fun t => t == 0) E P (pc + 1) ls st τ c n μ
    | .laload => xald (fun t => t == 1) E P (pc + 1) ls st τ c n μ
    | .baload => xald (fun t => t == 2 || t == 3) E P (pc + 1) ls st τ c n μ
    | .aaload => xald (fun t => t == 4 || t == 5 || t == 6 || t == 7 || t == 8) E P (pc + 1) ls st τ c n μ
    | .iastore => (match st with
      | .int x :: .int j :: .ref o :: q => (match τ o with
        | some (.inr (0, N)) => vp_in j N ∧ P (pc + 1) ls q τ c n (mset μ o j.toNatClampNeg (.int x))
        | _ => False)
      | _ => False)
    | .lastore => (match st with
      | .long x :: .int j :: .ref o :: q => (match τ o with
        | some (.inr (1, N)) => vp_in j N ∧ P (pc + 1) ls q τ c n (mset μ o j.toNatClampNeg (.long x))
        | _ => False)
      | _ => False)
    | .bastore => (match st with
      | .int x :: .int j :: .ref o :: q => (match τ o with
        | some (.inr (2, N)) => vp_in j N ∧ P (pc + 1) ls q τ c n (mset μ o j.toNatClampNeg (.int (vp_nar .byte x)))
        | some (.inr (3, N)) => vp_in j N ∧ P (pc + 1) ls q τ c n (mset μ o j.toNatClampNeg (.int (vp_nar .boolean x)))
        | _ => False)
      | _ => False)
    | .aastore => (match st with
      | .ref x :: .int j :: .ref o :: q => (match τ o with
        | some (.inr (t, N)) => vp_in j N ∧ elOK E τ t x ∧ P (pc + 1) ls q τ c n (mset μ o j.toNatClampNeg (.ref x))
        | _ => False)
      | _ => False)
    | .invokestatic _ => (match a with
      | 1001 => (match st with
        | .int k :: .int dp :: .ref o1 :: .int sp :: .ref o0 :: q => (match aget E τ μ o0, τ o1 with
          | some (t0, n0, f0), some (.inr (t1, n1)) => t0 = 2 ∧ t1 = 2 ∧ q.length ≤ 4 ∧ ¬ sp < 0 ∧ ¬ dp < 0 ∧ ¬ k < 0 ∧ sp.toNatClampNeg + k.toNatClampNeg ≤ n0 ∧ dp.toNatClampNeg + k.toNatClampNeg ≤ n1 ∧ (∀ j, j < k.toNatClampNeg → fits .byte (f0 (sp.toNatClampNeg + j)) = true) ∧ P (pc + 3) ls q τ c n (mrow μ o1 (va_cpy f0 (μ o1) sp.toNatClampNeg dp.toNatClampNeg k.toNatClampNeg))
          | _, _ => False)
        | _ => False)
      | _ => (match popN b [] st with
        | some (As, q) => xcall cal (hnd i pc) Q P (pc + 3) ls q τ c n μ a As
        | none => False))
    | .invokevirtual _ => (match a with
      | 1002 => (match st with
        | .ref o :: q => (match τ o with
          | some (.inr (2, N)) => q.length ≤ 4 ∧ 1 ≤ c ∧ N ≤ n ∧ (∀ j, j < N → fits .byte (μ o j) = true) ∧ ∀ z : Nat, mfr E τ z → P (pc + 3) ls (.ref z :: q) (tset τ z (.inr (2, N))) (c - 1) (n - N) (mrow μ z (μ o))
          | _ => False)
        | _ => False)
      | _ => (match popN b [] st with
        | some (As, .ref o :: q) => recv E τ o r ∧ xcall cal (hnd i pc) Q P (pc + 3) ls q τ c n μ a (.ref o :: As)
        | _ => False))
    | .invokespecial _ => (match a with
      | 1000 => (match st with
        | .ref _ :: q => q.length ≤ 4 ∧ P (pc + 3) ls q τ c n μ
        | _ => False)
      | _ => (match popN b [] st with
        | some (As, .ref o :: q) => τ o = some (.inl r) ∧ xcall cal (hnd i pc) Q P (pc + 3) ls q τ c n μ a (.ref o :: As)
        | _ => False))
    | .ireturn => (match st with
      | [.int x] => rfit r x ∧ Q (.inl (some (.int x))) τ μ
      | _ => False)
    | .lreturn => (match st with
      | [.long x] => Q (.inl (some (.long x))) τ μ
      | _ => False)
    | .dreturn => (match st with
      | [.double x] => Q (.inl (some (.double x))) τ μ
      | _ => False)
    | .areturn => (match st with
      | [.ref x] => Q (.inl (some (.ref x))) τ μ
      | [.null] => Q (.inl (some .null)) τ μ
      | _ => False)
    | .return_ => (match st with
      | [] => Q (.inl none) τ μ
      | _ => False)
    | _ => False
def mml (i : Nat) : Nat := match MT[i]? with
  | some q => q.2.2.1
  | none => 0
/-- a method: the least predicate that its steps keep, from its entry -/
def mwp (E : MEnv) : Nat → MCal
  | 0 => fun _ _ _ _ _ _ _ => False
  | d + 1 => fun i As τ c n μ Q => (As.map Value.category).sum ≤ mml i ∧ ∀ P : MP, (∀ pc ls st τ c n μ, exI E (mwp E d) Q i P pc ls st τ c n μ (COD i pc) → P pc ls st τ c n μ) → (∀ pc ls ls' st τ c n μ, (∀ z ∈ ls', z ∈ ls) → P pc ls' st τ c n μ → P pc ls st τ c n μ) → P 0 (lv_args 0 As) [] τ c n μ
