/-! THE FLAT MACHINE: the bytecode of part 03 over cells of ints and references. A state: how many cells, how many slots, each cell's kind (0..9 an object of that number, 10 int[], 11 boolean[], 12 Transaction[], 13 Index[]), length and references, each cell's ints. A reference is the cell's number here; .retAddr stands for the law's script. -/
abbrev Gm : Type := Nat → Nat × Nat × (Nat → Option Nat)
abbrev Sg : Type := Nat × Nat × Gm × (Nat → Nat → Int32)
abbrev Lc : Type := List (Option Value)
abbrev Rs : Type := Option (Option Value × Sg)
abbrev Kn : Type := Nat → Lc → List Value → Sg → Rs
def okv (N : Nat) (v : Value) : Bool := match v with
  | .int _ => true
  | .ref k => decide (k < N)
  | .retAddr _ => true
  | _ => false
def okl (N : Nat) (ls : Lc) : Bool := ls.all (fun o => match o with
  | none => true
  | some v => okv N v)
def oka (N : Nat) (v : Value) : Bool := match v with
  | .int _ => true
  | .ref k => decide (k < N)
  | _ => false
def wrI (σ : Sg) (a k : Nat) (x : Int32) : Sg := (σ.1, σ.2.1, σ.2.2.1, va_up σ.2.2.2 a (upd (σ.2.2.2 a) k x))
def wrR (σ : Sg) (a k q : Nat) : Sg := (σ.1, σ.2.1, va_up σ.2.2.1 a ((σ.2.2.1 a).1, (σ.2.2.1 a).2.1, va_up (σ.2.2.1 a).2.2 k (some q)), σ.2.2.2)
def cpI (σ : Sg) (r0 r1 sp dp n : Nat) : Sg := (σ.1, σ.2.1, σ.2.2.1, va_up σ.2.2.2 r1 (va_cpy (σ.2.2.2 r0) (σ.2.2.2 r1) sp dp n))
def nwC (σ : Sg) (kd len sl : Nat) : Sg := (σ.1 + 1, σ.2.1 + sl, va_up σ.2.2.1 σ.1 (kd, len, fun _ => none), va_up σ.2.2.2 σ.1 (fun _ => 0))
abbrev hsC (σ : Sg) (r kd : Nat) : Prop := r < σ.1 ∧ (σ.2.2.1 r).1 = kd
abbrev ibd (i : Int32) (n : Nat) : Prop := i < 0 ∨ n ≤ i.toNatClampNeg
def stp (X : Option (Nat × (Nat → Int32))) (cl : Nat → List Value → Sg → Rs) (kn : Kn) (mm : MT) (en : En) (ls : Lc) (st : List Value) (σ : Sg) : Rs :=
  match en with
  | (pc, i, n, v, a, b) =>
  match i with
  | .iconst _ | .bipush _ | .sipush _ | .ldc _ => kn (pc + n) ls (.int v :: st) σ
  | .iload _ | .iload_n _ => match ls[a]? with
    | some (some (.int x)) => kn (pc + n) ls (.int x :: st) σ
    | _ => none
  | .aload _ | .aload_n _ => match ls[a]? with
    | some (some (.ref x)) => kn (pc + n) ls (.ref x :: st) σ
    | some (some (.retAddr x)) => kn (pc + n) ls (.retAddr x :: st) σ
    | _ => none
  | .istore _ | .istore_n _ => match st with
    | .int x :: st => if a < ls.length then kn (pc + n) (ls.set a (some (.int x))) st σ else none
    | _ => none
  | .astore _ | .astore_n _ => match st with
    | .ref x :: st => if a < ls.length then kn (pc + n) (ls.set a (some (.ref x))) st σ else none
    | _ => none
  | .iinc _ _ => match ls[a]? with
    | some (some (.int x)) => kn (pc + n) (ls.set a (some (.int (x + v)))) st σ
    | _ => none
  | .iadd => match st with
    | .int y :: .int x :: st => kn (pc + n) ls (.int (x + y) :: st) σ
    | _ => none
  | .isub => match st with
    | .int y :: .int x :: st => kn (pc + n) ls (.int (x - y) :: st) σ
    | _ => none
  | .imul => match st with
    | .int y :: .int x :: st => kn (pc + n) ls (.int (x * y) :: st) σ
    | _ => none
  | .iand => match st with
    | .int y :: .int x :: st => kn (pc + n) ls (.int (x &&& y) :: st) σ
    | _ => none
  | .ixor => match st with
    | .int y :: .int x :: st => kn (pc + n) ls (.int (x ^^^ y) :: st) σ
    | _ => none
  | .idiv => match st with
    | .int y :: .int x :: st => if y = 0 then none else kn (pc + n) ls (.int (x / y) :: st) σ
    | _ => none
  | .irem => match st with
    | .int y :: .int x :: st => if y = 0 then none else kn (pc + n) ls (.int (x - x / y * y) :: st) σ
    | _ => none
  | .dup => match st with
    | .int x :: st => kn (pc + n) ls (.int x :: .int x :: st) σ
    | .ref x :: st => kn (pc + n) ls (.ref x :: .ref x :: st) σ
    | _ => none
  | .dup2 => match st with
    | .int x :: .ref y :: st => kn (pc + n) ls (.int x :: .ref y :: .int x :: .ref y :: st) σ
    | _ => none
  | .getfield _ => match st with
    | .ref r :: st => if hsC σ r a then (match (ftk a)[b]? with
      | some 2 => (match (σ.2.2.1 r).2.2 b with
        | some q => kn (pc + n) ls (.ref q :: st) σ
        | none => none)
      | some _ => kn (pc + n) ls (.int (σ.2.2.2 r b) :: st) σ
      | none => none) else none
    | _ => none
  | .putfield _ => match st with
    | .int x :: .ref r :: st => if hsC σ r a then (match (ftk a)[b]? with
      | some 0 => kn (pc + n) ls st (wrI σ r b x)
      | some 1 => if x = 0 ∨ x = 1 then kn (pc + n) ls st (wrI σ r b x) else none
      | _ => none) else none
    | .ref q :: .ref r :: st => if hsC σ r a ∧ q < σ.1 ∧ (ftk a)[b]? = some 2 then kn (pc + n) ls st (wrR σ r b q) else none
    | _ => none
  | .iaload => match st with
    | .int i :: .ref r :: st => if hsC σ r 10 then (if ibd i (σ.2.2.1 r).2.1 then none else kn (pc + n) ls (.int (σ.2.2.2 r i.toNatClampNeg) :: st) σ) else none
    | .int i :: .retAddr _ :: st => match X with
      | some (L, xs) => if ibd i L then none else kn (pc + n) ls (.int (xs i.toNatClampNeg) :: st) σ
      | none => none
    | _ => none
  | .baload => match st with
    | .int i :: .ref r :: st => if hsC σ r 11 then (if ibd i (σ.2.2.1 r).2.1 then none else kn (pc + n) ls (.int (σ.2.2.2 r i.toNatClampNeg) :: st) σ) else none
    | _ => none
  | .iastore => match st with
    | .int x :: .int i :: .ref r :: st => if hsC σ r 10 then (if ibd i (σ.2.2.1 r).2.1 then none else kn (pc + n) ls st (wrI σ r i.toNatClampNeg x)) else none
    | _ => none
  | .bastore => match st with
    | .int x :: .int i :: .ref r :: st => if hsC σ r 11 ∧ (x = 0 ∨ x = 1) then (if ibd i (σ.2.2.1 r).2.1 then none else kn (pc + n) ls st (wrI σ r i.toNatClampNeg x)) else none
    | _ => none
  | .aaload => match st with
    | .int i :: .ref r :: st => if hsC σ r 12 ∨ hsC σ r 13 then (if ibd i (σ.2.2.1 r).2.1 then none else (match (σ.2.2.1 r).2.2 i.toNatClampNeg with
      | some q => kn (pc + n) ls (.ref q :: st) σ
      | none => none)) else none
    | _ => none
  | .aastore => match st with
    | .ref q :: .int i :: .ref r :: st => if (hsC σ r 12 ∧ hsC σ q 6) ∨ (hsC σ r 13 ∧ hsC σ q 2) then (if ibd i (σ.2.2.1 r).2.1 then none else kn (pc + n) ls st (wrR σ r i.toNatClampNeg q)) else none
    | _ => none
  | .arraylength => match st with
    | .ref r :: st => if hsC σ r 10 then kn (pc + n) ls (.int (Int32.ofNat (σ.2.2.1 r).2.1) :: st) σ else none
    | .retAddr _ :: st => match X with
      | some (L, _) => kn (pc + n) ls (.int (Int32.ofNat L) :: st) σ
      | none => none
    | _ => none
  | .ifCond c _ => match st with
    | .int x :: st => match c with
      | .eq => if x = 0 then kn a ls st σ else kn (pc + n) ls st σ
      | .ne => if x = 0 then kn (pc + n) ls st σ else kn a ls st σ
      | .lt => if x < 0 then kn a ls st σ else kn (pc + n) ls st σ
      | .ge => if 0 ≤ x then kn a ls st σ else kn (pc + n) ls st σ
      | .gt => if 0 < x then kn a ls st σ else kn (pc + n) ls st σ
      | .le => if x ≤ 0 then kn a ls st σ else kn (pc + n) ls st σ
    | _ => none
  | .if_icmp c _ => match st with
    | .int y :: .int x :: st => match c with
      | .eq => if x = y then kn a ls st σ else kn (pc + n) ls st σ
      | .ne => if x = y then kn (pc + n) ls st σ else kn a ls st σ
      | .lt => if x < y then kn a ls st σ else kn (pc + n) ls st σ
      | .ge => if y ≤ x then kn a ls st σ else kn (pc + n) ls st σ
      | .gt => if y < x then kn a ls st σ else kn (pc + n) ls st σ
      | .le => if x ≤ y then kn a ls st σ else kn (pc + n) ls st σ
    | _ => none
  | .goto _ => kn a ls st σ
  | .tableswitch d lo hi offs => match st with
    | .int x :: st => if x.toInt < lo ∨ hi < x.toInt then kn ((pc : Int) + d).toNat ls st σ else (match offs[(x.toInt - lo).toNat]? with
      | some off => kn ((pc : Int) + off).toNat ls st σ
      | none => none)
    | _ => none
  | .lookupswitch d ps => match st with
    | .int x :: st => kn ((pc : Int) + Op.lookupswitch.offset ps.toList d x.toInt).toNat ls st σ
    | _ => none
  | .invokevirtual _ => match mT a with
    | some g => (match st.drop (g.2.2.2.2.2.1 - 1) with
      | .ref r :: rest => if rest.length ≤ 8 ∧ hsC σ r g.2.2.2.2.1 ∧ (st.take (g.2.2.2.2.2.1 - 1)).all (oka σ.1) = true ∧ okl σ.1 ls = true ∧ rest.all (okv σ.1) = true then (match cl a (.ref r :: (st.take (g.2.2.2.2.2.1 - 1)).reverse) σ with
        | some (rv, σ') => kn (pc + n) ls (rv.toList ++ rest) σ'
        | none => none) else none
      | _ => none)
    | none => none
  | .invokespecial _ => if a = 902 then (match st with
      | .ref _ :: rest => if rest.length ≤ 0 then kn (pc + n) ls rest σ else none
      | _ => none) else (match mT a with
    | some g => (match st.drop (g.2.2.2.2.2.1 - 1) with
      | .ref r :: rest => if rest.length ≤ 8 ∧ hsC σ r g.2.2.2.2.1 ∧ (st.take (g.2.2.2.2.2.1 - 1)).all (oka σ.1) = true ∧ okl σ.1 ls = true ∧ rest.all (okv σ.1) = true then (match cl a (.ref r :: (st.take (g.2.2.2.2.2.1 - 1)).reverse) σ with
        | some (rv, σ') => kn (pc + n) ls (rv.toList ++ rest) σ'
        | none => none) else none
      | _ => none)
    | none => none)
  | .invokestatic _ => if a = 900 then (match st with
      | .int m :: .int dp :: .ref r1 :: .int sp :: .ref r0 :: rest => if hsC σ r0 10 ∧ hsC σ r1 10 ∧ ¬ sp < 0 ∧ ¬ dp < 0 ∧ ¬ m < 0 ∧ sp.toNatClampNeg + m.toNatClampNeg ≤ (σ.2.2.1 r0).2.1 ∧ dp.toNatClampNeg + m.toNatClampNeg ≤ (σ.2.2.1 r1).2.1 ∧ rest.length ≤ 0 then kn (pc + n) ls rest (cpI σ r0 r1 sp.toNatClampNeg dp.toNatClampNeg m.toNatClampNeg) else none
      | _ => none) else if a = 901 then (match st with
      | .int y :: .int x :: rest => if rest.length ≤ 4 ∧ rest.all (okv σ.1) = true then kn (pc + n) ls (.int (if y < x then y else x) :: rest) σ else none
      | _ => none) else (match mT a with
    | some g => if g.2.2.2.2.2.1 ≤ st.length ∧ (st.drop g.2.2.2.2.2.1).length ≤ 8 ∧ (st.take g.2.2.2.2.2.1).all (oka σ.1) = true ∧ okl σ.1 ls = true ∧ (st.drop g.2.2.2.2.2.1).all (okv σ.1) = true then (match cl a (st.take g.2.2.2.2.2.1).reverse σ with
        | some (rv, σ') => kn (pc + n) ls (rv.toList ++ st.drop g.2.2.2.2.2.1) σ'
        | none => none) else none
    | none => none)
  | .ireturn => match st with
    | [.int x] => match mm.2.2.2.1 with
      | some .int => some (some (.int x), σ)
      | some .boolean => if x = 0 ∨ x = 1 then some (some (.int x), σ) else none
      | _ => none
    | _ => none
  | .areturn => match st with
    | [.ref r] => match mm.2.2.2.1 with
      | some (.object _) => if r < σ.1 then some (some (.ref r), σ) else none
      | _ => none
    | _ => none
  | .return_ => match st with
    | [] => match mm.2.2.2.1 with
      | none => some (none, σ)
      | _ => none
    | _ => none
  | .new _ => if okl σ.1 ls = true ∧ st.all (okv σ.1) = true ∧ a < 10 then kn (pc + n) ls (.ref σ.1 :: st) (nwC σ a 0 (NC a)) else none
  | .newarray _ => match st with
    | .int x :: st => if okl σ.1 ls = true ∧ st.all (okv σ.1) = true ∧ ¬ x < 0 ∧ x.toNatClampNeg ≤ 100000 ∧ (a = 10 ∨ a = 11) then kn (pc + n) ls (.ref σ.1 :: st) (nwC σ a x.toNatClampNeg x.toNatClampNeg) else none
    | _ => none
  | .anewarray _ => match st with
    | .int x :: st => if okl σ.1 ls = true ∧ st.all (okv σ.1) = true ∧ ¬ x < 0 ∧ x.toNatClampNeg ≤ 100000 ∧ (a = 12 ∨ a = 13) then kn (pc + n) ls (.ref σ.1 :: st) (nwC σ a x.toNatClampNeg x.toNatClampNeg) else none
    | _ => none
  | _ => none
def lkE : List En → Nat → Option En
  | [], _ => none
  | e :: es, pc => if e.1 = pc then some e else lkE es pc
def entL (g : MT) (as : List Value) : Lc := as.map some ++ List.replicate (g.2.2.1 - as.length) none
def run : Nat → Option (Nat × (Nat → Int32)) → Nat → Nat → Lc → List Value → Sg → Rs
  | 0, _, _, _, _, _, _ => none
  | n + 1, X, f, pc, ls, st, σ => match mT f with
    | none => none
    | some mm => match lkE (cd f) pc with
      | none => none
      | some en => stp X (fun g as τ => match mT g with
        | none => none
        | some mg => run n none g 0 (entL mg as) [] τ) (run n X f) mm en ls st σ
