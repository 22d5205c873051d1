/-! TREES, both sides': a store of nodes ns (keys, children; -1 for none), the tree that stands at a node at a height -/
def Tr (α : Type) : Nat → Type
  | 0 => List α
  | h + 1 => List α × List (Tr α h)
def kyT {α : Type} : (h : Nat) → Tr α h → List α
  | 0, t => t
  | _ + 1, t => t.1
def mkT {α : Type} (ns : Nat → List α × List Int) : (h : Nat) → Nat → Tr α h
  | 0, n => (ns n).1
  | h + 1, n => ((ns n).1, (ns n).2.map (fun c => mkT ns h c.toNat))
def wfT {α : Type} (V : Nat → Prop) (ns : Nat → List α × List Int) : Nat → Nat → Prop
  | 0, n => V n ∧ (ns n).2 = List.replicate ((ns n).1.length + 1) (-1)
  | h + 1, n => V n ∧ (ns n).2.length = (ns n).1.length + 1 ∧ ∀ c ∈ (ns n).2, 0 ≤ c ∧ wfT V ns h c.toNat
def fpT {α : Type} (ns : Nat → List α × List Int) : Nat → Nat → List Nat
  | 0, n => [n]
  | h + 1, n => n :: (ns n).2.flatMap (fun c => fpT ns h c.toNat)
theorem kyT_mk {α : Type} (ns : Nat → List α × List Int) : ∀ (h n : Nat), kyT h (mkT ns h n) = (ns n).1
  | 0, _ => rfl
  | _ + 1, _ => rfl
theorem fpT_self {α : Type} (ns : Nat → List α × List Int) : ∀ (h n : Nat), n ∈ fpT ns h n
  | 0, _ => List.mem_cons_self
  | _ + 1, _ => List.mem_cons_self
theorem fpT_kid {α : Type} {ns : Nat → List α × List Int} {h n m : Nat} {c : Int} (hc : c ∈ (ns n).2) (hm : m ∈ fpT ns h c.toNat) : m ∈ fpT ns (h + 1) n :=
  List.mem_cons_of_mem _ (List.mem_flatMap.mpr ⟨c, hc, hm⟩)
theorem mkT_congr {α : Type} {ns ns' : Nat → List α × List Int} : ∀ (h n : Nat), (∀ m ∈ fpT ns h n, ns' m = ns m) → mkT ns' h n = mkT ns h n
  | 0, n, H => by
    show (ns' n).1 = (ns n).1
    rw [H n (fpT_self ns 0 n)]
  | h + 1, n, H => by
    have e := H n (fpT_self ns (h + 1) n)
    show ((ns' n).1, (ns' n).2.map (fun c => mkT ns' h c.toNat)) = ((ns n).1, (ns n).2.map (fun c => mkT ns h c.toNat))
    rw [e]
    congr 1
    apply List.map_congr_left
    intro c hc
    exact mkT_congr h c.toNat (fun m hm => H m (fpT_kid hc hm))
theorem fpT_congr {α : Type} {ns ns' : Nat → List α × List Int} : ∀ (h n : Nat), (∀ m ∈ fpT ns h n, ns' m = ns m) → fpT ns' h n = fpT ns h n
  | 0, n, H => rfl
  | h + 1, n, H => by
    have e := H n (fpT_self ns (h + 1) n)
    show n :: (ns' n).2.flatMap (fun c => fpT ns' h c.toNat) = n :: (ns n).2.flatMap (fun c => fpT ns h c.toNat)
    rw [e]
    congr 1
    have key : ∀ l : List Int, (∀ c ∈ l, c ∈ (ns n).2) → l.flatMap (fun c => fpT ns' h c.toNat) = l.flatMap (fun c => fpT ns h c.toNat) := by
      intro l
      induction l with
      | nil => intro _; rfl
      | cons c l ih =>
        intro hl
        rw [List.flatMap_cons, List.flatMap_cons, ih (fun c hc => hl c (List.mem_cons_of_mem _ hc)), fpT_congr h c.toNat (fun m hm => H m (fpT_kid (hl c List.mem_cons_self) hm))]
    exact key _ (fun _ h => h)
theorem wfT_congr {α : Type} {V : Nat → Prop} {ns ns' : Nat → List α × List Int} : ∀ (h n : Nat), (∀ m ∈ fpT ns h n, ns' m = ns m) → wfT V ns h n → wfT V ns' h n
  | 0, n, H, hw => by
    have e := H n (fpT_self ns 0 n)
    show V n ∧ (ns' n).2 = _
    rw [e]
    exact hw
  | h + 1, n, H, hw => by
    have e := H n (fpT_self ns (h + 1) n)
    obtain ⟨h0, h1, h2⟩ := hw
    show V n ∧ (ns' n).2.length = (ns' n).1.length + 1 ∧ ∀ c ∈ (ns' n).2, 0 ≤ c ∧ wfT V ns' h c.toNat
    rw [e]
    exact ⟨h0, h1, fun c hc => ⟨(h2 c hc).1, wfT_congr h c.toNat (fun m hm => H m (fpT_kid hc hm)) (h2 c hc).2⟩⟩
theorem wfT_V {α : Type} {V : Nat → Prop} {ns : Nat → List α × List Int} : ∀ {h n : Nat}, wfT V ns h n → ∀ m ∈ fpT ns h n, V m
  | 0, n, hw, m, hm => by
    have : m = n := List.mem_singleton.mp hm
    rw [this]; exact hw.1
  | h + 1, n, hw, m, hm => by
    rcases List.mem_cons.mp hm with rfl | hm
    · exact hw.1
    · obtain ⟨c, hc, hm⟩ := List.mem_flatMap.mp hm
      exact wfT_V (hw.2.2 c hc).2 m hm
/-- the way down a path of slots: which nodes it comes to -/
def pthT {α : Type} (ns : Nat → List α × List Int) (s : Nat → Nat) : Nat → Nat → Nat
  | n, 0 => n
  | n, i + 1 => ((ns (pthT ns s n i)).2[s i]?.getD 0).toNat
/-! in order -/
def itr {α : Type} : List α → List (List α) → List α
  | _, [] => []
  | [], l :: _ => l
  | k :: ks, l :: ls => l ++ k :: itr ks ls
def inT {α : Type} : (h : Nat) → Tr α h → List α
  | 0, t => t
  | h + 1, t => itr t.1 (t.2.map (inT h))
/-! splitting -/
def lfT {α : Type} : (h : Nat) → Tr α h → Tr α h
  | 0, t => t.take 2
  | _ + 1, t => (t.1.take 2, t.2.take 3)
def rtT {α : Type} : (h : Nat) → Tr α h → Tr α h
  | 0, t => t.drop 3
  | _ + 1, t => (t.1.drop 3, t.2.drop 3)
/-- an entry comes at the end of a path of slots; a child with five is split, the root may be left with five -/
def insP {α : Type} (s : Nat → Nat) (e : α) : (h : Nat) → Nat → Tr α h → Tr α h
  | 0, i, t => insL t (s i) e
  | h + 1, i, t => match t.2[s i]? with
    | none => t
    | some u => match (kyT h (insP s e h (i + 1) u))[4]? with
      | none => (t.1, t.2.set (s i) (insP s e h (i + 1) u))
      | some _ => match (kyT h (insP s e h (i + 1) u))[2]? with
        | none => t
        | some x => (insL t.1 (s i) x, insL (t.2.set (s i) (lfT h (insP s e h (i + 1) u))) (s i + 1) (rtT h (insP s e h (i + 1) u)))
theorem itr_len {α : Type} : ∀ {ks : List α} {ls : List (List α)}, ls.length = ks.length + 1 → ∀ k, k < ls.length → itr ks ls = itr (ks.take k) (ls.take k ++ [[]]) ++ (ls[k]?.getD []) ++ (itr (ks.drop k) ([] :: ls.drop (k + 1)))
  | [], [l], _, 0, _ => by simp [itr]
  | [], l :: l2 :: ls, h, _, _ => by simp at h
  | k :: ks, [], h, _, _ => by simp at h
  | k :: ks, l :: ls, h, 0, _ => by simp [itr]
  | k :: ks, l :: ls, h, i + 1, hi => by
    have h2 : ls.length = ks.length + 1 := by simpa using h
    have := itr_len h2 i (by simpa using hi)
    simp only [itr, List.take_succ_cons, List.drop_succ_cons, List.getElem?_cons_succ, List.cons_append]
    rw [this]
    simp [List.append_assoc]
