/-! THE CELLS, once both objects are made: cell 0 the table, 22 + 5 t a transaction, 62 + 25 i an index, 212 the reference. A reference here: (tag, base, place): 0 the table (base 0), 1 a transaction, 2 an index, 3 the reference (base 0); and by their own addresses: 4 images of all places, 5 one image, 6 rows, 7 images of all places of the reference, 8 its images before -/
def asc : List (Nat × Nat) → Nat → Option Nat
  | [], _ => none
  | (k, q) :: r, j => if k = j then some q else asc r j
def tkd (t o : Nat) : Nat := match t with
  | 0 => ([8, 5, 1, 10, 1, 10, 10, 5, 1, 10, 1, 10, 10, 12, 13, 1, 10, 1, 10, 10, 10, 10][o]?).getD 99
  | 1 => ([6, 10, 10, 1, 10][o]?).getD 99
  | 2 => ([2, 10, 7, 0, 10, 10, 10, 10, 10, 10, 10, 10, 10, 10, 10, 3, 0, 10, 11, 4, 0, 10, 10, 0, 10][o]?).getD 99
  | 3 => ([9, 10, 10, 11, 11, 10, 11, 10, 10, 11, 10, 10, 11, 10, 10, 11, 10, 10, 10, 10, 10, 10, 11, 10, 10, 10, 10, 10, 10, 10, 11, 10, 10, 10, 10, 10, 10, 10, 10, 10, 10, 10, 10, 10, 10, 10, 11, 10][o]?).getD 99
  | 4 => ([1, 10][o]?).getD 99
  | 5 => ([1, 10][o]?).getD 99
  | 6 => ([5, 1, 10, 1, 10, 10][o]?).getD 99
  | 7 => ([10][o]?).getD 99
  | 8 => ([10][o]?).getD 99
  | _ => 99
def tln (t o : Nat) : Nat := match t with
  | 0 => ([0, 0, 0, 1600, 0, 1600, 320, 0, 0, 1600, 0, 1600, 320, 8, 6, 0, 5, 0, 5, 4, 4, 320][o]?).getD 0
  | 1 => ([0, 200, 200, 0, 1000][o]?).getD 0
  | 2 => ([0, 3, 0, 0, 2592, 648, 1740, 2088, 348, 348, 12, 12, 648, 648, 348, 0, 0, 1200, 300, 0, 0, 2560, 640, 0, 4][o]?).getD 0
  | 3 => ([0, 1280, 1280, 320, 320, 320, 8, 8, 1600, 1600, 6400, 1600, 6, 6, 18, 6, 6, 6, 6, 6, 6, 6, 1800, 5400, 1800, 6, 6, 11520, 3840, 6, 2160, 2160, 32400, 10800, 12960, 4, 4, 320, 3, 16, 16, 1800, 1800, 8, 4, 1280, 320, 320][o]?).getD 0
  | 4 => ([0, 1600][o]?).getD 0
  | 5 => ([0, 5][o]?).getD 0
  | 6 => ([0, 0, 1600, 0, 1600, 320][o]?).getD 0
  | 7 => ([1280][o]?).getD 0
  | 8 => ([8][o]?).getD 0
  | _ => 0
def trf (t o j : Nat) : Option Nat := match t with
  | 0 => asc ((([[(0, 1), (1, 7), (2, 13), (3, 14), (4, 15), (5, 17), (6, 19), (7, 20), (8, 21)], [(0, 2), (1, 4), (2, 6)], [(0, 3)], [], [(0, 5)], [], [], [(0, 8), (1, 10), (2, 12)], [(0, 9)], [], [(0, 11)], [], [], [], [], [(0, 16)], [], [(0, 18)], [], [], [], []] : List (List (Nat × Nat)))[o]?).getD []) j
  | 1 => asc ((([[(2, 1), (3, 2), (4, 3)], [], [], [(0, 4)], []] : List (List (Nat × Nat)))[o]?).getD []) j
  | 2 => asc ((([[(3, 1), (9, 2), (10, 15), (11, 19), (12, 23)], [], [(0, 3), (1, 5), (3, 6), (4, 7), (5, 8), (6, 9), (9, 10), (10, 11), (12, 12), (13, 13), (16, 14)], [(0, 4)], [], [], [], [], [], [], [], [], [], [], [], [(0, 16), (1, 18)], [(0, 17)], [], [], [(0, 20), (1, 22)], [(0, 21)], [], [], [(0, 24)], []] : List (List (Nat × Nat)))[o]?).getD []) j
  | 3 => asc ((([[(0, 1), (1, 2), (2, 3), (3, 4), (4, 5), (5, 6), (6, 7), (7, 8), (8, 9), (9, 10), (10, 11), (11, 12), (12, 13), (13, 14), (14, 15), (15, 16), (16, 17), (17, 18), (18, 19), (19, 20), (20, 21), (21, 22), (22, 23), (23, 24), (24, 25), (25, 26), (26, 27), (27, 28), (28, 29), (29, 30), (30, 31), (31, 32), (32, 33), (33, 34), (34, 35), (35, 36), (37, 37), (40, 38), (43, 39), (44, 40), (46, 41), (47, 42), (48, 43), (51, 44), (52, 45), (53, 46), (54, 47)], [], [], [], [], [], [], [], [], [], [], [], [], [], [], [], [], [], [], [], [], [], [], [], [], [], [], [], [], [], [], [], [], [], [], [], [], [], [], [], [], [], [], [], [], [], [], []] : List (List (Nat × Nat)))[o]?).getD []) j
  | 4 => asc ((([[(0, 1)], []] : List (List (Nat × Nat)))[o]?).getD []) j
  | 5 => asc ((([[(0, 1)], []] : List (List (Nat × Nat)))[o]?).getD []) j
  | 6 => asc ((([[(0, 1), (1, 3), (2, 5)], [(0, 2)], [], [(0, 4)], [], []] : List (List (Nat × Nat)))[o]?).getD []) j
  | _ => none
abbrev RF : Type := Nat × Nat × Nat
def adr (q : RF) : Nat := match q.1 with
  | 0 => q.2.2
  | 3 => 212 + q.2.2
  | _ => q.2.1 + q.2.2
def vtg (q : RF) : Prop := match q.1 with
  | 0 => True
  | 1 => ∃ j, j < 8 ∧ q.2.1 = 22 + 5 * j
  | 2 => ∃ j, j < 6 ∧ q.2.1 = 62 + 25 * j
  | 3 => True
  | 4 => q.2.1 = 2 ∨ q.2.1 = 4 ∨ q.2.1 = 8 ∨ q.2.1 = 10
  | 5 => q.2.1 = 15 ∨ q.2.1 = 17
  | 6 => q.2.1 = 1 ∨ q.2.1 = 7
  | 7 => q.2.1 = 213 ∨ q.2.1 = 214
  | 8 => q.2.1 = 255
  | _ => False
def Shp (N : Nat) (G : Gm) : Prop := (∀ q : RF, vtg q → ¬ tkd q.1 q.2.2 = 99 → adr q < N ∧ (G (adr q)).1 = tkd q.1 q.2.2 ∧ (G (adr q)).2.1 = tln q.1 q.2.2 ∧ ∀ j o', trf q.1 q.2.2 j = some o' → (G (adr q)).2.2 j = some (adr (q.1, q.2.1, o')) ∧ ¬ tkd q.1 o' = 99) ∧ (∀ j, j < 8 → (G 13).2.2 j = some (22 + 5 * j)) ∧ (∀ j, j < 6 → (G 14).2.2 j = some (62 + 25 * j))
abbrev Mm : Type := Nat → Nat → Int32
def inR (x : Int) : Prop := -2147483648 ≤ x ∧ x < 2147483648
def wr (x : Int) : Int := (Int32.ofInt x).toInt
def rd (I : Mm) (a k : Nat) : Int := (I a k).toInt
def wt (I : Mm) (a k : Nat) (x : Int) : Mm := va_up I a (upd (I a) k (Int32.ofInt x))
def cp (I : Mm) (r0 r1 sp dp n : Nat) : Mm := va_up I r1 (va_cpy (I r0) (I r1) sp dp n)
theorem wr_of {x : Int} (h : inR x) : wr x = x := by
  unfold wr
  unfold inR at h
  rw [Int32.toInt_ofInt_of_le] <;> omega
theorem rd_in (I : Mm) (a k : Nat) : inR (rd I a k) := by
  unfold rd inR
  have h1 := Int32.le_toInt (I a k)
  have h2 := Int32.toInt_lt (I a k)
  constructor <;> omega
theorem wr_in (x : Int) : inR (wr x) := by
  unfold wr inR
  have h1 := Int32.le_toInt (Int32.ofInt x)
  have h2 := Int32.toInt_lt (Int32.ofInt x)
  constructor <;> omega
theorem wr_wr (x : Int) : wr (wr x) = wr x := wr_of (wr_in x)
theorem wr_rd (I : Mm) (a k : Nat) : wr (rd I a k) = rd I a k := wr_of (rd_in I a k)
theorem of_rd (I : Mm) (a k : Nat) : Int32.ofInt (rd I a k) = I a k := by unfold rd; exact Int32.ofInt_toInt _
theorem of_wr (x : Int) : Int32.ofInt (wr x) = Int32.ofInt x := by unfold wr; exact Int32.ofInt_toInt _
theorem i_lt (x y : Int) : Int32.ofInt x < Int32.ofInt y ↔ wr x < wr y := Int32.lt_iff_toInt_lt
theorem i_le (x y : Int) : Int32.ofInt x ≤ Int32.ofInt y ↔ wr x ≤ wr y := Int32.le_iff_toInt_le
theorem i_eq (x y : Int) : Int32.ofInt x = Int32.ofInt y ↔ wr x = wr y := Int32.toInt_inj.symm
/-- an int: 0 any, 1 known to be in range, 2 a number that stands written there -/
abbrev NV : Type := Nat × Int
abbrev AV : Type := NV ⊕ RF
def av (v : AV) : Value := match v with
  | .inl q => .int (Int32.ofInt q.2)
  | .inr r => .ref (adr r)
def vi (q : NV) : Int := match q.1 with
  | 0 => wr q.2
  | _ => q.2
def okF (v : AV) : Prop := match v with
  | .inl q => ¬ q.1 = 0 → inR q.2
  | .inr r => vtg r ∧ ¬ tkd r.1 r.2.2 = 99
theorem vi_wr {q : NV} (h : okF (.inl q)) : vi q = wr q.2 := by
  obtain ⟨b, x⟩ := q
  cases b with
  | zero => rfl
  | succ b => exact (wr_of (h (Nat.succ_ne_zero b))).symm
def rgB (x : Int) : Bool := decide (-2147483648 ≤ x) && decide (x < 2147483648)
/-- a computed number -/
def nmv (k : Bool) (x : Int) : NV := match k with
  | true => (match rgB x with
    | true => (2, x)
    | false => (0, x))
  | false => (0, x)
def li2 (x y : NV) : Bool := decide (x.1 = 2) && decide (y.1 = 2)
def li1 (x : NV) : Bool := decide (x.1 = 2)
/-- a branch: taken at once where both numbers stand written there -/
def brP (k b : Bool) (c A B : Prop) : Prop := match k with
  | true => (match b with
    | true => A
    | false => B)
  | false => (c → A) ∧ (¬ c → B)
/-- a truth value: asked for where it does not stand written there -/
def boP (x : NV) (A : Prop) : Prop := match li1 x with
  | true => (match decide (x.2 = 0) || decide (x.2 = 1) with
    | true => A
    | false => False)
  | false => (vi x = 0 ∨ vi x = 1) ∧ A
abbrev AL : Type := List (Option AV)
def avL (ls : AL) : Lc := ls.map (fun o => o.map av)
def okFL (ls : AL) : Prop := ∀ v, some v ∈ ls → okF v
def okFS (st : List AV) : Prop := ∀ v ∈ st, okF v
def GoI (f pc : Nat) (ls : Lc) (st : List Value) (I : Mm) (P : Option Value → Mm → Prop) : Prop := ∀ (N M : Nat) (G : Gm), Shp N G → ∃ (n0 : Nat) (r : Option Value) (I' : Mm), (∀ n, n0 ≤ n → run n none f pc ls st (N, M, G, I) = some (r, (N, M, G, I'))) ∧ P r I'
def CallI (g : Nat) (as : List Value) (I : Mm) (P : Option Value → Mm → Prop) : Prop := ∃ mg, mT g = some mg ∧ GoI g 0 (entL mg as) [] I P
/-- calls, by what they answer: an int, nothing, a reference -/
def CallZ (g : Nat) (as : List AV) (I : Mm) (K : Int → Mm → Prop) : Prop := CallI g (as.map av) I (fun r I' => ∃ x, r = some (.int (Int32.ofInt x)) ∧ inR x ∧ K x I')
def CallV (g : Nat) (as : List AV) (I : Mm) (K : Mm → Prop) : Prop := CallI g (as.map av) I (fun r I' => r = none ∧ K I')
def CallR (g : Nat) (as : List AV) (I : Mm) (K : RF → Mm → Prop) : Prop := CallI g (as.map av) I (fun r I' => ∃ q : RF, r = some (.ref (adr q)) ∧ okF (.inr q) ∧ K q I')
abbrev AR : Type := Option (NV ⊕ RF)
def CallN (g : Nat) (as : List AV) (I : Mm) (K : NV → Mm → Prop) : Prop := CallI g (as.map av) I (fun r I' => ∃ x : NV, r = some (.int (Int32.ofInt x.2)) ∧ okF (.inl x) ∧ K x I')
/-- the rows of a tableswitch -/
def swP (K : Nat → Int → Prop) (pc : Nat) : Int → List Int → Prop
  | _, [] => True
  | lo, off :: offs => (K ((pc : Int) + off).toNat lo) ∧ swP K pc (lo + 1) offs
/-- the rows of a lookupswitch -/
def loP (x : Int) (K : Nat → Prop) (pc : Nat) (d : Int) : List (Int × Int) → Prop
  | [] => K ((pc : Int) + d).toNat
  | (k, off) :: r => (x = k → K ((pc : Int) + off).toNat) ∧ (¬ x = k → loP x K pc d r)
/-- what an instruction asks for and leaves -/
def vst (mm : MT) (en : En) (ls : AL) (st : List AV) (I : Mm) (kn : Nat → AL → List AV → Mm → Prop) (cz : Nat → List AV → Mm → (NV → Mm → Prop) → Prop) (cv : Nat → List AV → Mm → (Mm → Prop) → Prop) (cr : Nat → List AV → Mm → (RF → Mm → Prop) → Prop) (rt : AR → Mm → Prop) : Prop :=
  match en with
  | (pc, i, n, v, a, b) =>
  match i with
  | .iconst z | .bipush z | .sipush z => kn (pc + n) ls (.inl (2, z) :: st) I
  | .ldc _ => kn (pc + n) ls (.inl (1, v.toInt) :: st) I
  | .iload _ | .iload_n _ => (match ls[a]? with
    | some (some (.inl q)) => kn (pc + n) ls (.inl q :: st) I
    | _ => False)
  | .aload _ | .aload_n _ => (match ls[a]? with
    | some (some (.inr r)) => kn (pc + n) ls (.inr r :: st) I
    | _ => False)
  | .istore _ | .istore_n _ => (match st with
    | .inl q :: st => if a < ls.length then (match li1 q with
      | true => kn (pc + n) (ls.set a (some (.inl q))) st I
      | false => ∀ x, x = vi q → inR x → kn (pc + n) (ls.set a (some (.inl (1, x)))) st I) else False
    | _ => False)
  | .astore _ | .astore_n _ => (match st with
    | .inr r :: st => if a < ls.length then kn (pc + n) (ls.set a (some (.inr r))) st I else False
    | _ => False)
  | .iinc _ z => (match ls[a]? with
    | some (some (.inl q)) => (match li1 q with
      | true => kn (pc + n) (ls.set a (some (.inl (nmv true (q.2 + z))))) st I
      | false => ∀ x, x = wr (q.2 + z) → inR x → kn (pc + n) (ls.set a (some (.inl (1, x)))) st I)
    | _ => False)
  | .iadd => (match st with
    | .inl y :: .inl x :: st => kn (pc + n) ls (.inl (nmv (li2 x y) (x.2 + y.2)) :: st) I
    | _ => False)
  | .isub => (match st with
    | .inl y :: .inl x :: st => kn (pc + n) ls (.inl (nmv (li2 x y) (x.2 - y.2)) :: st) I
    | _ => False)
  | .imul => (match st with
    | .inl y :: .inl x :: st => kn (pc + n) ls (.inl (nmv (li2 x y) (x.2 * y.2)) :: st) I
    | _ => False)
  | .idiv => (match st with
    | .inl y :: .inl x :: st => (0 ≤ vi x ∧ 0 < vi y) ∧ kn (pc + n) ls (.inl (1, vi x / vi y) :: st) I
    | _ => False)
  | .irem => (match st with
    | .inl y :: .inl x :: st => (0 ≤ vi x ∧ 0 < vi y) ∧ kn (pc + n) ls (.inl (1, vi x % vi y) :: st) I
    | _ => False)
  | .dup => (match st with
    | x :: st => kn (pc + n) ls (x :: x :: st) I
    | _ => False)
  | .dup2 => (match st with
    | .inl x :: .inr y :: st => kn (pc + n) ls (.inl x :: .inr y :: .inl x :: .inr y :: st) I
    | _ => False)
  | .getfield _ => (match st with
    | .inr r :: st => if tkd r.1 r.2.2 = a then (match (ftk a)[b]? with
      | some 2 => (match trf r.1 r.2.2 b with
        | some q => kn (pc + n) ls (.inr (r.1, r.2.1, q) :: st) I
        | none => False)
      | some _ => kn (pc + n) ls (.inl (1, rd I (adr r) b) :: st) I
      | none => False) else False
    | _ => False)
  | .putfield _ => (match st with
    | .inl x :: .inr r :: st => if tkd r.1 r.2.2 = a then (match (ftk a)[b]? with
      | some 0 => ∀ I', I' = wt I (adr r) b x.2 → kn (pc + n) ls st I'
      | some 1 => boP x (∀ I', I' = wt I (adr r) b x.2 → kn (pc + n) ls st I')
      | _ => False) else False
    | _ => False)
  | .iaload => (match st with
    | .inl i :: .inr r :: st => if tkd r.1 r.2.2 = 10 then (0 ≤ vi i ∧ vi i < tln r.1 r.2.2) ∧ kn (pc + n) ls (.inl (1, rd I (adr r) (vi i).toNat) :: st) I else False
    | _ => False)
  | .baload => (match st with
    | .inl i :: .inr r :: st => if tkd r.1 r.2.2 = 11 then (0 ≤ vi i ∧ vi i < tln r.1 r.2.2) ∧ kn (pc + n) ls (.inl (1, rd I (adr r) (vi i).toNat) :: st) I else False
    | _ => False)
  | .iastore => (match st with
    | .inl x :: .inl i :: .inr r :: st => if tkd r.1 r.2.2 = 10 then (0 ≤ vi i ∧ vi i < tln r.1 r.2.2) ∧ (∀ I', I' = wt I (adr r) (vi i).toNat x.2 → kn (pc + n) ls st I') else False
    | _ => False)
  | .bastore => (match st with
    | .inl x :: .inl i :: .inr r :: st => if tkd r.1 r.2.2 = 11 then (0 ≤ vi i ∧ vi i < tln r.1 r.2.2) ∧ boP x (∀ I', I' = wt I (adr r) (vi i).toNat x.2 → kn (pc + n) ls st I') else False
    | _ => False)
  | .aaload => (match st with
    | .inl i :: .inr r :: st => if r.1 = 0 ∧ r.2.2 = 13 then (0 ≤ vi i ∧ vi i < 8) ∧ kn (pc + n) ls (.inr (1, 22 + 5 * (vi i).toNat, 0) :: st) I else if r.1 = 0 ∧ r.2.2 = 14 then (0 ≤ vi i ∧ vi i < 6) ∧ kn (pc + n) ls (.inr (2, 62 + 25 * (vi i).toNat, 0) :: st) I else False
    | _ => False)
  | .arraylength => (match st with
    | .inr r :: st => if tkd r.1 r.2.2 = 10 then kn (pc + n) ls (.inl (2, (tln r.1 r.2.2 : Int)) :: st) I else False
    | _ => False)
  | .ifCond c _ => (match st with
    | .inl x :: st => (match c with
      | .eq => brP (li1 x) (decide (x.2 = 0)) (vi x = 0) (kn a ls st I) (kn (pc + n) ls st I)
      | .ne => brP (li1 x) (decide (x.2 = 0)) (vi x = 0) (kn (pc + n) ls st I) (kn a ls st I)
      | .lt => brP (li1 x) (decide (x.2 < 0)) (vi x < 0) (kn a ls st I) (kn (pc + n) ls st I)
      | .ge => brP (li1 x) (decide (0 ≤ x.2)) (0 ≤ vi x) (kn a ls st I) (kn (pc + n) ls st I)
      | .gt => brP (li1 x) (decide (0 < x.2)) (0 < vi x) (kn a ls st I) (kn (pc + n) ls st I)
      | .le => brP (li1 x) (decide (x.2 ≤ 0)) (vi x ≤ 0) (kn a ls st I) (kn (pc + n) ls st I))
    | _ => False)
  | .if_icmp c _ => (match st with
    | .inl y :: .inl x :: st => (match c with
      | .eq => brP (li2 x y) (decide (x.2 = y.2)) (vi x = vi y) (kn a ls st I) (kn (pc + n) ls st I)
      | .ne => brP (li2 x y) (decide (x.2 = y.2)) (vi x = vi y) (kn (pc + n) ls st I) (kn a ls st I)
      | .lt => brP (li2 x y) (decide (x.2 < y.2)) (vi x < vi y) (kn a ls st I) (kn (pc + n) ls st I)
      | .ge => brP (li2 x y) (decide (y.2 ≤ x.2)) (vi y ≤ vi x) (kn a ls st I) (kn (pc + n) ls st I)
      | .gt => brP (li2 x y) (decide (y.2 < x.2)) (vi y < vi x) (kn a ls st I) (kn (pc + n) ls st I)
      | .le => brP (li2 x y) (decide (x.2 ≤ y.2)) (vi x ≤ vi y) (kn a ls st I) (kn (pc + n) ls st I))
    | _ => False)
  | .goto _ => kn a ls st I
  | .tableswitch d lo hi offs => (match st with
    | .inl x :: st => ((vi x < lo ∨ hi < vi x) → kn ((pc : Int) + d).toNat ls st I) ∧ swP (fun k q => vi x = q → kn k ls st I) pc lo offs.toList
    | _ => False)
  | .lookupswitch d ps => (match st with
    | .inl x :: st => loP (vi x) (fun k => kn k ls st I) pc d ps.toList
    | _ => False)
  | .invokevirtual _ => (match mT a with
    | some g => (match st.drop (g.2.2.2.2.2.1 - 1) with
      | .inr r :: rest => if rest.length ≤ 8 ∧ tkd r.1 r.2.2 = g.2.2.2.2.1 then (match g.2.2.2.1 with
        | none => cv a (.inr r :: (st.take (g.2.2.2.2.2.1 - 1)).reverse) I (fun I' => kn (pc + n) ls rest I')
        | some .int | some .boolean => cz a (.inr r :: (st.take (g.2.2.2.2.2.1 - 1)).reverse) I (fun x I' => kn (pc + n) ls (.inl x :: rest) I')
        | some (.object _) => cr a (.inr r :: (st.take (g.2.2.2.2.2.1 - 1)).reverse) I (fun q I' => kn (pc + n) ls (.inr q :: rest) I')
        | _ => False) else False
      | _ => False)
    | none => False)
  | .invokestatic _ => if a = 900 then (match st with
      | .inl m :: .inl dp :: .inr r1 :: .inl sp :: .inr r0 :: rest => if tkd r0.1 r0.2.2 = 10 ∧ tkd r1.1 r1.2.2 = 10 ∧ rest.length ≤ 0 then (0 ≤ vi sp ∧ 0 ≤ vi dp ∧ 0 ≤ vi m ∧ vi sp + vi m ≤ tln r0.1 r0.2.2 ∧ vi dp + vi m ≤ tln r1.1 r1.2.2) ∧ (∀ I', I' = cp I (adr r0) (adr r1) (vi sp).toNat (vi dp).toNat (vi m).toNat → kn (pc + n) ls rest I') else False
      | _ => False) else if a = 901 then (match st with
      | .inl y :: .inl x :: rest => if rest.length ≤ 4 then kn (pc + n) ls (.inl (1, if vi y < vi x then vi y else vi x) :: rest) I else False
      | _ => False) else (match mT a with
    | some g => if g.2.2.2.2.2.1 ≤ st.length ∧ (st.drop g.2.2.2.2.2.1).length ≤ 8 then (match g.2.2.2.1 with
        | none => cv a (st.take g.2.2.2.2.2.1).reverse I (fun I' => kn (pc + n) ls (st.drop g.2.2.2.2.2.1) I')
        | some .int | some .boolean => cz a (st.take g.2.2.2.2.2.1).reverse I (fun x I' => kn (pc + n) ls (.inl x :: st.drop g.2.2.2.2.2.1) I')
        | _ => False) else False
    | none => False)
  | .ireturn => (match st with
    | [.inl x] => (match mm.2.2.2.1 with
      | some .int => rt (some (.inl x)) I
      | some .boolean => boP x (rt (some (.inl x)) I)
      | _ => False)
    | _ => False)
  | .areturn => (match st with
    | [.inr r] => (match mm.2.2.2.1 with
      | some (.object _) => rt (some (.inr r)) I
      | _ => False)
    | _ => False)
  | .return_ => (match st with
    | [] => (match mm.2.2.2.1 with
      | none => rt none I
      | _ => False)
    | _ => False)
  | _ => False
