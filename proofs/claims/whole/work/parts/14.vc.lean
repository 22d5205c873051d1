/-! THE CELLS, once both objects are made: cell 0 the table, 22 + 5 t a transaction, 62 + 25 i an index, 212 the reference -/
def asc : List (Nat × Nat) → Nat → Option Nat
  | [], _ => none
  | (k, q) :: r, j => if k = j then some q else asc r j
def skd (a : Nat) : Nat := if a < 62 then (if a < 22 then ([8, 5, 1, 10, 1, 10, 10, 5, 1, 10, 1, 10, 10, 12, 13, 1, 10, 1, 10, 10, 10, 10][a]?).getD 99 else ([6, 10, 10, 1, 10][(a - 22) % 5]?).getD 99) else if a < 212 then ([2, 10, 7, 0, 10, 10, 10, 10, 10, 10, 10, 10, 10, 10, 10, 3, 0, 10, 11, 4, 0, 10, 10, 0, 10][(a - 62) % 25]?).getD 99 else ([9, 10, 10, 11, 11, 10, 11, 10, 10, 11, 10, 10, 11, 10, 10, 11, 10, 10, 10, 10, 10, 10, 11, 10, 10, 10, 10, 10, 10, 10, 11, 10, 10, 10, 10, 10, 10, 10, 10, 10, 10, 10, 10, 10, 10, 10, 11, 10][a - 212]?).getD 99
def sln (a : Nat) : Nat := if a < 62 then (if a < 22 then ([0, 0, 0, 1600, 0, 1600, 320, 0, 0, 1600, 0, 1600, 320, 8, 6, 0, 5, 0, 5, 4, 4, 320][a]?).getD 0 else ([0, 200, 200, 0, 1000][(a - 22) % 5]?).getD 0) else if a < 212 then ([0, 3, 0, 0, 2592, 648, 1740, 2088, 348, 348, 12, 12, 648, 648, 348, 0, 0, 1200, 300, 0, 0, 2560, 640, 0, 4][(a - 62) % 25]?).getD 0 else ([0, 1280, 1280, 320, 320, 320, 8, 8, 1600, 1600, 6400, 1600, 6, 6, 18, 6, 6, 6, 6, 6, 6, 6, 1800, 5400, 1800, 6, 6, 11520, 3840, 6, 2160, 2160, 32400, 10800, 12960, 4, 4, 320, 3, 16, 16, 1800, 1800, 8, 4, 1280, 320, 320][a - 212]?).getD 0
def srf (a j : Nat) : Option Nat := if a < 62 then (if a < 22 then (if a = 13 then (if j < 8 then some (22 + 5 * j) else none) else if a = 14 then (if j < 6 then some (62 + 25 * j) else none) else asc ((([[(0, 1), (1, 7), (2, 13), (3, 14), (4, 15), (5, 17), (6, 19), (7, 20), (8, 21)], [(0, 2), (1, 4), (2, 6)], [(0, 3)], [], [(0, 5)], [], [], [(0, 8), (1, 10), (2, 12)], [(0, 9)], [], [(0, 11)], [], [], [], [], [(0, 16)], [], [(0, 18)], [], [], [], []] : List (List (Nat × Nat)))[a]?).getD []) j) else (asc ((([[(2, 1), (3, 2), (4, 3)], [], [], [(0, 1)], []] : List (List (Nat × Nat)))[(a - 22) % 5]?).getD []) j).map (a + ·)) else if a < 212 then (asc ((([[(3, 1), (9, 2), (10, 15), (11, 19), (12, 23)], [], [(0, 1), (1, 3), (3, 4), (4, 5), (5, 6), (6, 7), (9, 8), (10, 9), (12, 10), (13, 11), (16, 12)], [(0, 1)], [], [], [], [], [], [], [], [], [], [], [], [(0, 1), (1, 3)], [(0, 1)], [], [], [(0, 1), (1, 3)], [(0, 1)], [], [], [(0, 1)], []] : List (List (Nat × Nat)))[(a - 62) % 25]?).getD []) j).map (a + ·) else if a = 212 then asc [(0, 213), (1, 214), (2, 215), (3, 216), (4, 217), (5, 218), (6, 219), (7, 220), (8, 221), (9, 222), (10, 223), (11, 224), (12, 225), (13, 226), (14, 227), (15, 228), (16, 229), (17, 230), (18, 231), (19, 232), (20, 233), (21, 234), (22, 235), (23, 236), (24, 237), (25, 238), (26, 239), (27, 240), (28, 241), (29, 242), (30, 243), (31, 244), (32, 245), (33, 246), (34, 247), (35, 248), (37, 249), (40, 250), (43, 251), (44, 252), (46, 253), (47, 254), (48, 255), (51, 256), (52, 257), (53, 258), (54, 259)] j else none
def Shp (N : Nat) (G : Gm) : Prop := 260 ≤ N ∧ ∀ a, a < 260 → (G a).1 = skd a ∧ (G a).2.1 = sln a ∧ ∀ j q, srf a j = some q → (G a).2.2 j = some q
abbrev Mm : Type := Nat → Nat → Int32
def inR (x : Int) : Prop := -2147483648 ≤ x ∧ x < 2147483648
def wr (x : Int) : Int := (Int32.ofInt x).toInt
def rd (I : Mm) (a k : Nat) : Int := (I a k).toInt
def wt (I : Mm) (a k : Nat) (x : Int) : Mm := va_up I a (upd (I a) k (Int32.ofInt x))
def cp (I : Mm) (r0 r1 sp dp n : Nat) : Mm := va_up I r1 (va_cpy (I r0) (I r1) sp dp n)
theorem wr_of {x : Int} (h : inR x) : wr x = x := by
  unfold wr
  unfold inR at h
  rw [Int32.toInt_ofInt_of_le] <;> omega
theorem rd_in (I : Mm) (a k : Nat) : inR (rd I a k) := by
  unfold rd inR
  have h1 := Int32.le_toInt (I a k)
  have h2 := Int32.toInt_lt (I a k)
  constructor <;> omega
theorem wr_in (x : Int) : inR (wr x) := by
  unfold wr inR
  have h1 := Int32.le_toInt (Int32.ofInt x)
  have h2 := Int32.toInt_lt (Int32.ofInt x)
  constructor <;> omega
theorem wr_wr (x : Int) : wr (wr x) = wr x := wr_of (wr_in x)
theorem wr_rd (I : Mm) (a k : Nat) : wr (rd I a k) = rd I a k := wr_of (rd_in I a k)
theorem of_rd (I : Mm) (a k : Nat) : Int32.ofInt (rd I a k) = I a k := by unfold rd; exact Int32.ofInt_toInt _
theorem of_wr (x : Int) : Int32.ofInt (wr x) = Int32.ofInt x := by unfold wr; exact Int32.ofInt_toInt _
theorem i_lt (x y : Int) : Int32.ofInt x < Int32.ofInt y ↔ wr x < wr y := Int32.lt_iff_toInt_lt
theorem i_le (x y : Int) : Int32.ofInt x ≤ Int32.ofInt y ↔ wr x ≤ wr y := Int32.le_iff_toInt_le
theorem i_eq (x y : Int) : Int32.ofInt x = Int32.ofInt y ↔ wr x = wr y := Int32.toInt_inj.symm
abbrev AV : Type := (Bool × Int) ⊕ Nat
def av (v : AV) : Value := match v with
  | .inl q => .int (Int32.ofInt q.2)
  | .inr r => .ref r
def vi (q : Bool × Int) : Int := match q.1 with
  | true => q.2
  | false => wr q.2
def okF (v : AV) : Prop := match v with
  | .inl (true, x) => inR x
  | _ => True
theorem vi_wr {q : Bool × Int} (h : okF (.inl q)) : vi q = wr q.2 := by
  obtain ⟨b, x⟩ := q
  cases b
  · rfl
  · exact (wr_of h).symm
abbrev AL : Type := List (Option AV)
def avL (ls : AL) : Lc := ls.map (fun o => o.map av)
def okFL (ls : AL) : Prop := ∀ v, some v ∈ ls → okF v
def okFS (st : List AV) : Prop := ∀ v ∈ st, okF v
def GoI (f pc : Nat) (ls : Lc) (st : List Value) (I : Mm) (P : Option Value → Mm → Prop) : Prop := ∀ (N M : Nat) (G : Gm), Shp N G → ∃ (n0 : Nat) (r : Option Value) (I' : Mm), (∀ n, n0 ≤ n → run n none f pc ls st (N, M, G, I) = some (r, (N, M, G, I'))) ∧ P r I'
def CallI (g : Nat) (as : List Value) (I : Mm) (P : Option Value → Mm → Prop) : Prop := ∃ mg, mT g = some mg ∧ GoI g 0 (entL mg as) [] I P
def orf (v : AV) : Prop := match v with
  | .inl _ => True
  | .inr r => r < 260
def okA (r a : Nat) : Prop := r < 260 ∧ skd r = a
def orL (ls : AL) : Prop := match ls with
  | [] => True
  | some (.inr r) :: ls => r < 260 ∧ orL ls
  | _ :: ls => orL ls
def orS (st : List AV) : Prop := match st with
  | [] => True
  | .inr r :: st => r < 260 ∧ orS st
  | .inl _ :: st => orS st
/-- what an instruction asks for and leaves -/
def vst (mm : MT) (en : En) (ls : AL) (st : List AV) (I : Mm) (kn : Nat → AL → List AV → Mm → Prop) (cl : Nat → List AV → Mm → (Option AV → Mm → Prop) → Prop) (rt : Option AV → Mm → Prop) : Prop :=
  match en with
  | (pc, i, n, v, a, b) =>
  match i with
  | .iconst z | .bipush z | .sipush z => kn (pc + n) ls (.inl (true, z) :: st) I
  | .ldc _ => kn (pc + n) ls (.inl (true, v.toInt) :: st) I
  | .iload _ | .iload_n _ => (match ls[a]? with
    | some (some (.inl q)) => kn (pc + n) ls (.inl q :: st) I
    | _ => False)
  | .aload _ | .aload_n _ => (match ls[a]? with
    | some (some (.inr r)) => kn (pc + n) ls (.inr r :: st) I
    | _ => False)
  | .istore _ | .istore_n _ => (match st with
    | .inl q :: st => if a < ls.length then kn (pc + n) (ls.set a (some (.inl q))) st I else False
    | _ => False)
  | .astore _ | .astore_n _ => (match st with
    | .inr r :: st => if a < ls.length then kn (pc + n) (ls.set a (some (.inr r))) st I else False
    | _ => False)
  | .iinc _ z => (match ls[a]? with
    | some (some (.inl q)) => kn (pc + n) (ls.set a (some (.inl (false, q.2 + z)))) st I
    | _ => False)
  | .iadd => (match st with
    | .inl y :: .inl x :: st => kn (pc + n) ls (.inl (false, x.2 + y.2) :: st) I
    | _ => False)
  | .isub => (match st with
    | .inl y :: .inl x :: st => kn (pc + n) ls (.inl (false, x.2 - y.2) :: st) I
    | _ => False)
  | .imul => (match st with
    | .inl y :: .inl x :: st => kn (pc + n) ls (.inl (false, x.2 * y.2) :: st) I
    | _ => False)
  | .idiv => (match st with
    | .inl y :: .inl x :: st => (0 ≤ vi x ∧ 0 < vi y) ∧ kn (pc + n) ls (.inl (true, vi x / vi y) :: st) I
    | _ => False)
  | .irem => (match st with
    | .inl y :: .inl x :: st => (0 ≤ vi x ∧ 0 < vi y) ∧ kn (pc + n) ls (.inl (true, vi x % vi y) :: st) I
    | _ => False)
  | .dup => (match st with
    | x :: st => kn (pc + n) ls (x :: x :: st) I
    | _ => False)
  | .dup2 => (match st with
    | .inl x :: .inr y :: st => kn (pc + n) ls (.inl x :: .inr y :: .inl x :: .inr y :: st) I
    | _ => False)
  | .getfield _ => (match st with
    | .inr r :: st => okA r a ∧ (match (ftk a)[b]? with
      | some 2 => (match srf r b with
        | some q => kn (pc + n) ls (.inr q :: st) I
        | none => False)
      | some _ => kn (pc + n) ls (.inl (true, rd I r b) :: st) I
      | none => False)
    | _ => False)
  | .putfield _ => (match st with
    | .inl x :: .inr r :: st => okA r a ∧ (match (ftk a)[b]? with
      | some 0 => kn (pc + n) ls st (wt I r b x.2)
      | some 1 => (vi x = 0 ∨ vi x = 1) ∧ kn (pc + n) ls st (wt I r b x.2)
      | _ => False)
    | _ => False)
  | .iaload => (match st with
    | .inl i :: .inr r :: st => okA r 10 ∧ (0 ≤ vi i ∧ vi i < sln r) ∧ kn (pc + n) ls (.inl (true, rd I r (vi i).toNat) :: st) I
    | _ => False)
  | .baload => (match st with
    | .inl i :: .inr r :: st => okA r 11 ∧ (0 ≤ vi i ∧ vi i < sln r) ∧ kn (pc + n) ls (.inl (true, rd I r (vi i).toNat) :: st) I
    | _ => False)
  | .iastore => (match st with
    | .inl x :: .inl i :: .inr r :: st => okA r 10 ∧ (0 ≤ vi i ∧ vi i < sln r) ∧ kn (pc + n) ls st (wt I r (vi i).toNat x.2)
    | _ => False)
  | .bastore => (match st with
    | .inl x :: .inl i :: .inr r :: st => okA r 11 ∧ (0 ≤ vi i ∧ vi i < sln r) ∧ (vi x = 0 ∨ vi x = 1) ∧ kn (pc + n) ls st (wt I r (vi i).toNat x.2)
    | _ => False)
  | .aaload => (match st with
    | .inl i :: .inr r :: st => (okA r 12 ∨ okA r 13) ∧ (0 ≤ vi i ∧ vi i < sln r) ∧ (match srf r (vi i).toNat with
      | some q => kn (pc + n) ls (.inr q :: st) I
      | none => False)
    | _ => False)
  | .arraylength => (match st with
    | .inr r :: st => okA r 10 ∧ kn (pc + n) ls (.inl (true, (sln r : Int)) :: st) I
    | _ => False)
  | .ifCond c _ => (match st with
    | .inl x :: st => (match c with
      | .eq => (vi x = 0 → kn a ls st I) ∧ (¬ vi x = 0 → kn (pc + n) ls st I)
      | .ne => (vi x = 0 → kn (pc + n) ls st I) ∧ (¬ vi x = 0 → kn a ls st I)
      | .lt => (vi x < 0 → kn a ls st I) ∧ (¬ vi x < 0 → kn (pc + n) ls st I)
      | .ge => (0 ≤ vi x → kn a ls st I) ∧ (¬ 0 ≤ vi x → kn (pc + n) ls st I)
      | .gt => (0 < vi x → kn a ls st I) ∧ (¬ 0 < vi x → kn (pc + n) ls st I)
      | .le => (vi x ≤ 0 → kn a ls st I) ∧ (¬ vi x ≤ 0 → kn (pc + n) ls st I))
    | _ => False)
  | .if_icmp c _ => (match st with
    | .inl y :: .inl x :: st => (match c with
      | .eq => (vi x = vi y → kn a ls st I) ∧ (¬ vi x = vi y → kn (pc + n) ls st I)
      | .ne => (vi x = vi y → kn (pc + n) ls st I) ∧ (¬ vi x = vi y → kn a ls st I)
      | .lt => (vi x < vi y → kn a ls st I) ∧ (¬ vi x < vi y → kn (pc + n) ls st I)
      | .ge => (vi y ≤ vi x → kn a ls st I) ∧ (¬ vi y ≤ vi x → kn (pc + n) ls st I)
      | .gt => (vi y < vi x → kn a ls st I) ∧ (¬ vi y < vi x → kn (pc + n) ls st I)
      | .le => (vi x ≤ vi y → kn a ls st I) ∧ (¬ vi x ≤ vi y → kn (pc + n) ls st I))
    | _ => False)
  | .goto _ => kn a ls st I
  | .tableswitch d lo hi offs => (match st with
    | .inl x :: st => ((vi x < lo ∨ hi < vi x) → kn ((pc : Int) + d).toNat ls st I) ∧ (∀ (k : Nat) (off : Int), offs.toList[k]? = some off → vi x = lo + (k : Int) → kn ((pc : Int) + off).toNat ls st I)
    | _ => False)
  | .lookupswitch d ps => (match st with
    | .inl x :: st => kn ((pc : Int) + Op.lookupswitch.offset ps.toList d (vi x)).toNat ls st I
    | _ => False)
  | .invokevirtual _ => (match mT a with
    | some g => (match st.drop (g.2.2.2.2.2.1 - 1) with
      | .inr r :: rest => (rest.length ≤ 8 ∧ okA r g.2.2.2.2.1 ∧ orS st ∧ orL ls) ∧ cl a (.inr r :: (st.take (g.2.2.2.2.2.1 - 1)).reverse) I (fun rv I' => kn (pc + n) ls (rv.toList ++ rest) I')
      | _ => False)
    | none => False)
  | .invokestatic _ => if a = 900 then (match st with
      | .inl m :: .inl dp :: .inr r1 :: .inl sp :: .inr r0 :: rest => (okA r0 10 ∧ okA r1 10 ∧ 0 ≤ vi sp ∧ 0 ≤ vi dp ∧ 0 ≤ vi m ∧ vi sp + vi m ≤ sln r0 ∧ vi dp + vi m ≤ sln r1 ∧ rest.length ≤ 0) ∧ kn (pc + n) ls rest (cp I r0 r1 (vi sp).toNat (vi dp).toNat (vi m).toNat)
      | _ => False) else if a = 901 then (match st with
      | .inl y :: .inl x :: rest => (rest.length ≤ 4 ∧ orS rest) ∧ kn (pc + n) ls (.inl (true, if vi y < vi x then vi y else vi x) :: rest) I
      | _ => False) else (match mT a with
    | some g => (g.2.2.2.2.2.1 ≤ st.length ∧ (st.drop g.2.2.2.2.2.1).length ≤ 8 ∧ orS st ∧ orL ls) ∧ cl a (st.take g.2.2.2.2.2.1).reverse I (fun rv I' => kn (pc + n) ls (rv.toList ++ st.drop g.2.2.2.2.2.1) I')
    | none => False)
  | .ireturn => (match st with
    | [.inl x] => (match mm.2.2.2.1 with
      | some .int => rt (some (.inl x)) I
      | some .boolean => (vi x = 0 ∨ vi x = 1) ∧ rt (some (.inl x)) I
      | _ => False)
    | _ => False)
  | .areturn => (match st with
    | [.inr r] => (match mm.2.2.2.1 with
      | some (.object _) => r < 260 ∧ rt (some (.inr r)) I
      | _ => False)
    | _ => False)
  | .return_ => (match st with
    | [] => (match mm.2.2.2.1 with
      | none => rt none I
      | _ => False)
    | _ => False)
  | _ => False
