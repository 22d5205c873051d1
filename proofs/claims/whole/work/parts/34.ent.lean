/-! entries and their order; the way that a search goes -/
abbrev E : Type := Int × Int × Int × Int
def wcmp (x y r : Int) : Int := if x = y then r else if y ≤ x then 1 else -1
def ecmp (a b : E) : Int := wcmp a.1 b.1 (wcmp a.2.1 b.2.1 (wcmp a.2.2.1 b.2.2.1 (wcmp a.2.2.2 b.2.2.2 0)))
def elt (a b : E) : Prop := a.1 < b.1 ∨ (a.1 = b.1 ∧ (a.2.1 < b.2.1 ∨ (a.2.1 = b.2.1 ∧ (a.2.2.1 < b.2.2.1 ∨ (a.2.2.1 = b.2.2.1 ∧ a.2.2.2 < b.2.2.2)))))
theorem wcmp_neg (x y r : Int) : wcmp x y r < 0 ↔ x < y ∨ (x = y ∧ r < 0) := by
  unfold wcmp; split
  · omega
  · split <;> omega
theorem wcmp_pos (x y r : Int) : 0 < wcmp x y r ↔ y < x ∨ (y = x ∧ 0 < r) := by
  unfold wcmp; split
  · omega
  · split <;> omega
theorem ecmp_neg (a b : E) : ecmp a b < 0 ↔ elt a b := by
  unfold ecmp elt
  simp only [wcmp_neg]
  omega
theorem ecmp_pos (a b : E) : 0 < ecmp a b ↔ elt b a := by
  unfold ecmp elt
  simp only [wcmp_pos]
  omega
theorem ecmp_zero (a b : E) : ecmp a b = 0 ↔ a = b := by
  have h1 := ecmp_neg a b
  have h2 := ecmp_pos a b
  constructor
  · intro h
    have n1 : ¬ elt a b := fun z => by have := h1.mpr z; omega
    have n2 : ¬ elt b a := fun z => by have := h2.mpr z; omega
    obtain ⟨a1, a2, a3, a4⟩ := a
    obtain ⟨b1, b2, b3, b4⟩ := b
    unfold elt at n1 n2
    simp only at n1 n2
    have e1 : a1 = b1 := by omega
    have e2 : a2 = b2 := by omega
    have e3 : a3 = b3 := by omega
    have e4 : a4 = b4 := by omega
    rw [e1, e2, e3, e4]
  · intro h
    subst h
    have n1 : ¬ elt a a := by unfold elt; omega
    have g1 : ¬ ecmp a a < 0 := fun z => n1 (h1.mp z)
    have g2 : ¬ 0 < ecmp a a := fun z => n1 (h2.mp z)
    omega
theorem elt_irr (a : E) : ¬ elt a a := by unfold elt; omega
theorem elt_trans {a b c : E} (h1 : elt a b) (h2 : elt b c) : elt a c := by unfold elt at *; omega
theorem elt_tri (a b : E) : elt a b ∨ a = b ∨ elt b a := by
  by_cases h1 : elt a b
  · exact Or.inl h1
  · by_cases h2 : elt b a
    · exact Or.inr (Or.inr h2)
    · refine Or.inr (Or.inl ((ecmp_zero a b).mp ?_))
      have g1 : ¬ ecmp a b < 0 := fun z => h1 ((ecmp_neg a b).mp z)
      have g2 : ¬ 0 < ecmp a b := fun z => h2 ((ecmp_pos a b).mp z)
      omega
theorem ecmp_in (a b : E) : -1 ≤ ecmp a b ∧ ecmp a b ≤ 1 := by
  have w : ∀ x y r : Int, -1 ≤ r ∧ r ≤ 1 → -1 ≤ wcmp x y r ∧ wcmp x y r ≤ 1 := by
    intro x y r h
    unfold wcmp
    split
    · exact h
    · split <;> omega
  exact w _ _ _ (w _ _ _ (w _ _ _ (w _ _ _ ⟨by omega, by omega⟩)))
/-- how many keys at the beginning are less than e -/
def kc (e : E) : List E → Nat
  | [] => 0
  | k :: ks => if 0 < ecmp e k then kc e ks + 1 else 0
theorem kc_le (e : E) : ∀ ks : List E, kc e ks ≤ ks.length
  | [] => Nat.le_refl _
  | k :: ks => by
    unfold kc
    have := kc_le e ks
    split
    · simp only [List.length_cons]; omega
    · exact Nat.zero_le _
theorem kc_lo (e : E) : ∀ (ks : List E) (j : Nat) (k : E), j < kc e ks → ks[j]? = some k → 0 < ecmp e k
  | [], j, k, h, _ => by cases h
  | k0 :: ks, j, k, h, hk => by
    unfold kc at h
    split at h
    · cases j with
      | zero => simp at hk; rw [← hk]; assumption
      | succ j => exact kc_lo e ks j k (by omega) (by simpa using hk)
    · omega
theorem kc_at (e : E) : ∀ (ks : List E) (k : E), ks[kc e ks]? = some k → ¬ 0 < ecmp e k
  | [], k, hk => by simp at hk
  | k0 :: ks, k, hk => by
    by_cases c : 0 < ecmp e k0
    · have : kc e (k0 :: ks) = kc e ks + 1 := by show (if 0 < ecmp e k0 then _ else _) = _; rw [if_pos c]
      rw [this] at hk
      exact kc_at e ks k (by simpa using hk)
    · have : kc e (k0 :: ks) = 0 := by show (if 0 < ecmp e k0 then _ else _) = _; rw [if_neg c]
      rw [this] at hk
      simp at hk
      rw [← hk]; exact c
theorem kc_of {e : E} : ∀ {ks : List E} {n : Nat}, n ≤ ks.length → (∀ j k, j < n → ks[j]? = some k → 0 < ecmp e k) → (∀ k, ks[n]? = some k → ¬ 0 < ecmp e k) → kc e ks = n
  | [], n, h, _, _ => by simp at h; subst h; rfl
  | k0 :: ks, 0, h, h1, h2 => by
    show (if 0 < ecmp e k0 then _ else _) = _
    rw [if_neg (h2 k0 rfl)]
  | k0 :: ks, n + 1, h, h1, h2 => by
    show (if 0 < ecmp e k0 then _ else _) = _
    rw [if_pos (h1 0 k0 (by omega) rfl), kc_of (n := n) (by simpa using h) (fun j k hj hk => h1 (j + 1) k (by omega) (by simpa using hk)) (fun k hk => h2 k (by simpa using hk))]
/-- whether the key looked at is the entry itself -/
def hit (e : E) (ks : List E) : Bool := match ks[kc e ks]? with
  | some k => decide (ecmp e k = 0)
  | none => false
theorem hit_iff {e : E} {ks : List E} : hit e ks = true ↔ ks[kc e ks]? = some e := by
  unfold hit
  cases h : ks[kc e ks]? with
  | none => simp
  | some k =>
    simp only [decide_eq_true_eq, Option.some.injEq]
    rw [ecmp_zero]
    exact ⟨fun z => z.symm, fun z => z.symm⟩
/-- the slots of the search -/
def slT (e : E) : (h : Nat) → Tr E h → Nat → Nat
  | 0, t, _ => kc e t
  | _ + 1, t, 0 => kc e t.1
  | h + 1, t, i + 1 => match t.2[kc e t.1]? with
    | some u => slT e h u i
    | none => 0
def fnT (e : E) : (h : Nat) → Tr E h → Bool
  | 0, t => hit e t
  | h + 1, t => hit e t.1 || match t.2[kc e t.1]? with
    | some u => fnT e h u
    | none => false
/-- the level at which the search ends -/
def lvT (e : E) : (h : Nat) → Tr E h → Nat
  | 0, _ => 0
  | h + 1, t => if hit e t.1 then 0 else match t.2[kc e t.1]? with
    | some u => lvT e h u + 1
    | none => 0
/-- the way to the greatest entry -/
def rmT {α : Type} : (h : Nat) → Tr α h → Nat → Nat
  | 0, t, _ => List.length t - 1
  | _ + 1, t, 0 => t.1.length
  | h + 1, t, i + 1 => match t.2[t.1.length]? with
    | some u => rmT h u i
    | none => 0
def mxT {α : Type} : (h : Nat) → Tr α h → Option α
  | 0, t => List.getLast? t
  | h + 1, t => match t.2[t.1.length]? with
    | some u => mxT h u
    | none => none
/-- the slots on the way of an entry that goes -/
def dsT (e : E) : (h : Nat) → Tr E h → Nat → Nat
  | 0, t, _ => kc e t
  | _ + 1, t, 0 => kc e t.1
  | h + 1, t, i + 1 => match t.2[kc e t.1]? with
    | some u => if hit e t.1 then rmT h u i else dsT e h u i
    | none => 0
/-- what takes its place, if it is not in a lowest node -/
def gbT (e : E) : (h : Nat) → Tr E h → Option E
  | 0, _ => none
  | h + 1, t => match t.2[kc e t.1]? with
    | some u => if hit e t.1 then mxT h u else gbT e h u
    | none => none
theorem insP_congr {α : Type} {s s' : Nat → Nat} {e : α} : ∀ (h i : Nat) (t : Tr α h), (∀ j, j ≤ h → s (i + j) = s' (i + j)) → insP s e h i t = insP s' e h i t
  | 0, i, t, H => by
    show insL t (s i) e = insL t (s' i) e
    rw [show s i = s' i from H 0 (Nat.le_refl _)]
  | h + 1, i, t, H => by
    have h0 : s i = s' i := H 0 (by omega)
    have ih : ∀ u : Tr α h, insP s e h (i + 1) u = insP s' e h (i + 1) u := fun u => insP_congr h (i + 1) u (fun j hj => by rw [show i + 1 + j = i + (j + 1) by omega]; exact H (j + 1) (by omega))
    conv => lhs; unfold insP
    conv => rhs; unfold insP
    rw [h0]
    cases t.2[s' i]? with
    | none => rfl
    | some u => simp only []; rw [ih u]
theorem delP_congr {α : Type} {s s' : Nat → Nat} : ∀ (h i : Nat) (t : Tr α h), (∀ j, j ≤ h → s (i + j) = s' (i + j)) → delP s h i t = delP s' h i t
  | 0, i, t, H => by
    show remL t (s i) = remL t (s' i)
    rw [show s i = s' i from H 0 (Nat.le_refl _)]
  | h + 1, i, t, H => by
    have h0 : s i = s' i := H 0 (by omega)
    have ih : ∀ u : Tr α h, delP s h (i + 1) u = delP s' h (i + 1) u := fun u => delP_congr h (i + 1) u (fun j hj => by rw [show i + 1 + j = i + (j + 1) by omega]; exact H (j + 1) (by omega))
    cases hu : t.2[s i]? with
    | none =>
      have hu' : t.2[s' i]? = none := by rw [← h0]; exact hu
      conv => lhs; unfold delP
      conv => rhs; unfold delP
      rw [hu, hu']
    | some u =>
      have hu' : t.2[s' i]? = some u := by rw [← h0]; exact hu
      rw [delP_s hu, delP_s hu', ih u, h0]
theorem repP_congr {α : Type} {s s' : Nat → Nat} {f : Nat} {x : α} : ∀ (h i : Nat) (t : Tr α h), (∀ j, j ≤ h → s (i + j) = s' (i + j)) → repP s f x h i t = repP s' f x h i t
  | 0, i, t, H => by
    have h0 : s i = s' i := H 0 (Nat.le_refl _)
    by_cases c : i = f
    · rw [repP_0e c, repP_0e c, h0]
    · rw [repP_0n c, repP_0n c]
  | h + 1, i, t, H => by
    have h0 : s i = s' i := H 0 (by omega)
    have ih : ∀ u : Tr α h, repP s f x h (i + 1) u = repP s' f x h (i + 1) u := fun u => repP_congr h (i + 1) u (fun j hj => by rw [show i + 1 + j = i + (j + 1) by omega]; exact H (j + 1) (by omega))
    by_cases c : i = f
    · rw [repP_e c, repP_e c, h0]
    · cases hu : t.2[s i]? with
      | none =>
        have hu' : t.2[s' i]? = none := by rw [← h0]; exact hu
        rw [repP_n c hu, repP_n c hu']
      | some u =>
        have hu' : t.2[s' i]? = some u := by rw [← h0]; exact hu
        rw [repP_s c hu, repP_s c hu', ih u, h0]
