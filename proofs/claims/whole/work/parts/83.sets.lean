/-! INVARIANTS: what an index is to hold -/
theorem nd_lenE {α : Type} : ∀ {l m : List α}, l.Nodup → (∀ x ∈ l, x ∈ m) → l.length ≤ m.length
  | [], m, _, _ => Nat.zero_le _
  | a :: l, m, hn, hs => by
    have ha : a ∈ m := hs a List.mem_cons_self
    obtain ⟨m1, m2, rfl⟩ := List.append_of_mem ha
    have hc := List.nodup_cons.mp hn
    have := nd_lenE (l := l) (m := m1 ++ m2) hc.2 (fun x hx => by
      have h1 := hs x (List.mem_cons_of_mem _ hx)
      have h2 : x ≠ a := fun h => hc.1 (by rw [← h]; exact hx)
      rcases List.mem_append.mp h1 with h | h
      · exact List.mem_append.mpr (Or.inl h)
      · rcases List.mem_cons.mp h with h | h
        · exact absurd h h2
        · exact List.mem_append.mpr (Or.inr h))
    simp only [List.length_append, List.length_cons] at this ⊢
    omega
def szL (N : Nat) (Q : E → Prop) : Prop := ∃ l : List E, l.length ≤ N ∧ ∀ e, Q e → e ∈ l
theorem szL_sub {N M : Nat} {Q R : E → Prop} (h : szL N Q) (hm : N ≤ M) (hs : ∀ e, R e → Q e) : szL M R := by
  obtain ⟨l, h1, h2⟩ := h
  exact ⟨l, by omega, fun e he => h2 e (hs e he)⟩
theorem szL_add {N : Nat} {Q R : E → Prop} {l : List E} (h : szL N Q) (hs : ∀ e, R e → Q e ∨ e ∈ l) : szL (N + l.length) R := by
  obtain ⟨m, h1, h2⟩ := h
  refine ⟨m ++ l, by rw [List.length_append]; omega, fun e he => List.mem_append.mpr ?_⟩
  rcases hs e he with h | h
  · exact Or.inl (h2 e h)
  · exact Or.inr h
theorem szL_T {N : Nat} {Q : E → Prop} {T : TS E} (h : szL N Q) (hg : good T) (hs : ∀ e, e ∈ lsT T → Q e) : (lsT T).length ≤ N := by
  obtain ⟨l, h1, h2⟩ := h
  have nd : (lsT T).Nodup := hg.2.imp (fun {a b} hab hE => by subst hE; exact elt_irr _ hab)
  exact Nat.le_trans (nd_lenE nd (fun x hx => h2 x (hs x hx))) h1
/-- a log gone through, over a set -/
def rp : (E → Prop) → List (Int × E) → E → Prop
  | Q, [] => Q
  | Q, (c, a) :: L => rp (if c = 0 then fun x => Q x ∧ x ≠ a else fun x => Q x ∨ x = a) L
theorem rp_cg : ∀ {L : List (Int × E)} {Q R : E → Prop}, (∀ e, Q e ↔ R e) → ∀ e, rp Q L e ↔ rp R L e
  | [], _, _, h, e => h e
  | (c, a) :: L, Q, R, h, e => by
    show rp (if c = 0 then fun x => Q x ∧ x ≠ a else fun x => Q x ∨ x = a) L e ↔ rp (if c = 0 then fun x => R x ∧ x ≠ a else fun x => R x ∨ x = a) L e
    refine rp_cg (fun x => ?_) e
    by_cases z : c = 0
    · rw [if_pos z, if_pos z]; exact and_congr_left' (h x)
    · rw [if_neg z, if_neg z]; exact or_congr_left (h x)
theorem rp_app : ∀ {L : List (Int × E)} {Q : E → Prop} {c : Int} {a e : E}, rp Q (L ++ [(c, a)]) e ↔ (if c = 0 then rp Q L e ∧ e ≠ a else rp Q L e ∨ e = a)
  | [], Q, c, a, e => by
    show (if c = 0 then fun x => Q x ∧ x ≠ a else fun x => Q x ∨ x = a) e ↔ (if c = 0 then Q e ∧ e ≠ a else Q e ∨ e = a)
    by_cases z : c = 0
    · rw [if_pos z, if_pos z]
    · rw [if_neg z, if_neg z]
  | (d, b) :: L, Q, c, a, e => rp_app (L := L)
theorem rp_new : ∀ {L : List (Int × E)} {Q N : E → Prop}, (∀ c a, (c, a) ∈ L → ¬ N a) → ∀ e, rp (fun x => Q x ∨ N x) L e ↔ (rp Q L e ∨ N e)
  | [], _, _, _, _ => Iff.rfl
  | (c, a) :: L, Q, N, h, e => by
    have na := h c a List.mem_cons_self
    have ih := rp_new (L := L) (Q := if c = 0 then fun x => Q x ∧ x ≠ a else fun x => Q x ∨ x = a) (N := N) (fun c' a' hm => h c' a' (List.mem_cons_of_mem _ hm)) e
    refine Iff.trans (rp_cg (L := L) (fun x => ?_) e) ih
    by_cases z : c = 0
    · rw [if_pos z, if_pos z]
      constructor
      · rintro ⟨h1 | h1, h2⟩
        · exact Or.inl ⟨h1, h2⟩
        · exact Or.inr h1
      · rintro (⟨h1, h2⟩ | h1)
        · exact ⟨Or.inl h1, h2⟩
        · exact ⟨Or.inr h1, fun hx => na (by rw [← hx]; exact h1)⟩
    · rw [if_neg z, if_neg z]
      constructor
      · rintro ((h1 | h1) | h1)
        · exact Or.inl (Or.inl h1)
        · exact Or.inr h1
        · exact Or.inl (Or.inr h1)
      · rintro ((h1 | h1) | h1)
        · exact Or.inl (Or.inl h1)
        · exact Or.inr h1
        · exact Or.inl (Or.inr h1)
def inTG (x : Ix) (e : E) : Prop := e ∈ lsT (xT x) ∨ e ∈ xG x
/-- an index in use, and the set D of the entries of all places -/
def CIQ (x : Ix) (D : E → Prop) : Prop := xU x = 1 ∧ kyOK (xK x) ∧ good (xT x) ∧ (1 ≤ xS x ∧ xS x ≤ 5 ∧ xP x ≤ 40) ∧ (xS x = 1 → xP x < 40 ∧ srtG (xG x)) ∧ (xS x = 1 ∨ xS x = 2 → (lsT (xT x)).length + (xG x).length ≤ 16 * xP x) ∧ (2 ≤ xS x → xS x ≤ 4 → xP x = 40) ∧ (3 ≤ xS x → xG x = []) ∧ (4 ≤ xS x → xL x = []) ∧ (xS x = 5 → lsT (xT x) = []) ∧ (xS x ≤ 4 → (∀ e, rp (inTG x) (xL x) e ↔ (e.2.2.2 < 8 * (xP x : Int) ∧ D e)) ∧ (∀ n, szL (16 * xP x + 1) (rp (inTG x) ((xL x).take n))) ∧ ∀ c e, (c, e) ∈ xL x → e.2.2.2 < 8 * (xP x : Int))
theorem ciq_cg {x : Ix} {D D' : E → Prop} (h : CIQ x D) (hd : ∀ e, D e ↔ D' e) : CIQ x D' := by
  obtain ⟨a1, a2, a3, a4, a5, a6, a7, a8, a9, a10, a11⟩ := h
  exact ⟨a1, a2, a3, a4, a5, a6, a7, a8, a9, a10, fun z => ⟨fun e => ((a11 z).1 e).trans (and_congr_right' (hd e)), (a11 z).2⟩⟩
theorem ciq_T {x : Ix} {D : E → Prop} (h : CIQ x D) : (lsT (xT x)).length ≤ 641 := by
  obtain ⟨a1, a2, a3, a4, a5, a6, a7, a8, a9, a10, a11⟩ := h
  by_cases c : xS x ≤ 4
  · have := szL_T ((a11 c).2.1 0) a3 (fun e he => Or.inl he)
    omega
  · rw [a10 (by omega)]; exact Nat.zero_le _
theorem ciq_tl {x : Ix} {D : E → Prop} (h : CIQ x D) : tlOK x := by
  have := ciq_T h
  obtain ⟨a1, a2, a3, a4, a5, a6, a7, a8, a9, a10, a11⟩ := h
  exact Or.inr ⟨a1, a2, a3, by omega, a4.2.2⟩
theorem ciq_st {x : Ix} {D : E → Prop} (h : CIQ x D) : stOK x := by
  have := ciq_T h
  obtain ⟨a1, a2, a3, a4, a5, a6, a7, a8, a9, a10, a11⟩ := h
  exact ⟨a2, a3, by omega, a4.2.2, fun z => ⟨(a5 z).1, (a5 z).2, by have := a6 (Or.inl z); omega⟩, fun z => by have := a6 (Or.inr z); omega⟩
theorem lsT_tE : lsT tE = [] := rfl
theorem ciq_fail {x : Ix} {D D' : E → Prop} {v : Int × Int × Int} (h : CIQ x D) : CIQ (xFail x v) D' := by
  obtain ⟨a1, a2, a3, a4, a5, a6, a7, a8, a9, a10, a11⟩ := h
  refine ⟨a1, a2, tE_good, ⟨by show (1 : Int) ≤ 5; decide, by show (5 : Int) ≤ 5; decide, a4.2.2⟩, fun z => ?_, fun z => ?_, fun _ z => ?_, fun _ => rfl, fun _ => rfl, fun _ => rfl, fun z => ?_⟩
  · exact absurd (show (5 : Int) = 1 from z) (by decide)
  · exact absurd (show (5 : Int) = 1 ∨ (5 : Int) = 2 from z) (by decide)
  · exact absurd (show (5 : Int) ≤ 4 from z) (by decide)
  · exact absurd (show (5 : Int) ≤ 4 from z) (by decide)
/-- an entry comes or goes -/
def upD (c : Int) (a : E) (D : E → Prop) (e : E) : Prop := if c = 0 then D e ∧ e ≠ a else D e ∨ e = a
theorem stepT_m {c : Int} {a : E} {T : TS E} (hg : good T) : good (stepT c a T) ∧ ∀ e, e ∈ lsT (stepT c a T) ↔ upD c a (fun e => e ∈ lsT T) e := by
  unfold stepT upD
  by_cases z : c = 0
  · rw [if_pos z]
    have := cut_good (e := a) hg
    refine ⟨this.1, fun e => ?_⟩
    rw [if_pos z, this.2.1 e]
    exact And.comm
  · rw [if_neg z]
    have := add_good (e := a) hg
    refine ⟨this.1, fun e => ?_⟩
    rw [if_neg z, this.2.1 e]
    exact Or.comm
theorem ciq_tk {x : Ix} {D : E → Prop} {c : Int} {a : E} (h : CIQ x D) (hs : szL (16 * xP x + 1) (fun e => e.2.2.2 < 8 * (xP x : Int) ∧ upD c a D e)) (ha : a.2.2.2 < 320) : CIQ (xTk c a x) (upD c a D) := by
  have h0 := h
  obtain ⟨a1, a2, a3, a4, a5, a6, a7, a8, a9, a10, a11⟩ := h
  unfold xTk
  by_cases z4 : xS x = 4
  · rw [if_pos z4]
    have sm := stepT_m (c := c) (a := a) a3
    obtain ⟨p1, p2, p3⟩ := a11 (by omega)
    have l0 := a9 (by omega)
    have g0 := a8 (by omega)
    have p40 := a7 (by omega) (by omega)
    rw [l0] at p1
    have p1 : ∀ e, inTG x e ↔ (e.2.2.2 < 8 * (xP x : Int) ∧ D e) := p1
    have nw : ∀ e, inTG (setT x (stepT c a (xT x))) e ↔ (e.2.2.2 < 8 * (xP x : Int) ∧ upD c a D e) := fun e => by
      have i1 : inTG (setT x (stepT c a (xT x))) e ↔ e ∈ lsT (stepT c a (xT x)) := ⟨fun q => q.elim id (fun q => by have q : e ∈ xG x := q; rw [g0] at q; cases q), Or.inl⟩
      have i2 : inTG x e ↔ e ∈ lsT (xT x) := ⟨fun q => q.elim id (fun q => by rw [g0] at q; cases q), Or.inl⟩
      rw [i1, sm.2 e]
      have i3 := i2.symm.trans (p1 e)
      unfold upD
      by_cases z : c = 0
      · rw [if_pos z, if_pos z]
        dsimp only
        rw [i3]
        exact ⟨fun q => ⟨q.1.1, q.1.2, q.2⟩, fun q => ⟨⟨q.1, q.2.1⟩, q.2.2⟩⟩
      · rw [if_neg z, if_neg z]
        dsimp only
        rw [i3]
        constructor
        · rintro (q | q)
          · exact ⟨q.1, Or.inl q.2⟩
          · subst q; exact ⟨by omega, Or.inr rfl⟩
        · rintro ⟨q, q2 | q2⟩
          · exact Or.inl ⟨q, q2⟩
          · exact Or.inr q2
    have hS : xS (setT x (stepT c a (xT x))) = 4 := z4
    refine ⟨a1, a2, sm.1, a4, fun z => absurd (hS.symm.trans z) (by decide), fun z => ?_, a7, a8, a9, fun z => absurd (hS.symm.trans z) (by decide), fun _ => ⟨fun e => ?_, fun n => ?_, p3⟩⟩
    · rw [hS] at z; exact absurd z (by decide)
    · show rp (inTG (setT x (stepT c a (xT x)))) (xL x) e ↔ _
      rw [l0]; exact nw e
    · show szL (16 * xP x + 1) (rp (inTG (setT x (stepT c a (xT x)))) ((xL x).take n))
      rw [l0, List.take_nil]
      exact szL_sub hs (Nat.le_refl _) (fun e he => (nw e).mp he)
  · rw [if_neg z4]
    by_cases c1 : xS x < 4 ∧ a.2.2.2 < 8 * (xP x : Int)
    · rw [if_pos c1]
      obtain ⟨p1, p2, p3⟩ := a11 (by omega)
      by_cases c2 : (xL x).length < 300
      · rw [if_pos c2]
        have nw : ∀ e, rp (inTG x) (xL x ++ [(c, a)]) e ↔ (e.2.2.2 < 8 * (xP x : Int) ∧ upD c a D e) := fun e => by
          rw [rp_app]
          unfold upD
          by_cases z : c = 0
          · rw [if_pos z, if_pos z, p1 e]
            exact ⟨fun q => ⟨q.1.1, q.1.2, q.2⟩, fun q => ⟨⟨q.1, q.2.1⟩, q.2.2⟩⟩
          · rw [if_neg z, if_neg z, p1 e]
            constructor
            · rintro (q | q)
              · exact ⟨q.1, Or.inl q.2⟩
              · subst q; exact ⟨c1.2, Or.inr rfl⟩
            · rintro ⟨q, q2 | q2⟩
              · exact Or.inl ⟨q, q2⟩
              · exact Or.inr q2
        refine ⟨a1, a2, a3, a4, a5, a6, a7, a8, fun z => absurd (show 4 ≤ xS x from z) (by omega), a10, fun _ => ⟨nw, fun n => ?_, fun c' e' hm => ?_⟩⟩
        · show szL (16 * xP x + 1) (rp (inTG x) ((xL x ++ [(c, a)]).take n))
          by_cases cn : n ≤ (xL x).length
          · rw [List.take_append_of_le_length cn]; exact p2 n
          · rw [List.take_of_length_le (by simp; omega)]
            exact szL_sub hs (Nat.le_refl _) (fun e he => (nw e).mp he)
        · have hm : (c', e') ∈ xL x ++ [(c, a)] := hm
          rcases List.mem_append.mp hm with h | h
          · exact p3 c' e' h
          · have := List.mem_singleton.mp h
            cases this
            exact c1.2
      · rw [if_neg c2]; exact ciq_fail h0
    · rw [if_neg c1]
      refine ⟨a1, a2, a3, a4, a5, a6, a7, a8, a9, a10, fun z => ?_⟩
      obtain ⟨p1, p2, p3⟩ := a11 z
      refine ⟨fun e => (p1 e).trans ?_, p2, p3⟩
      have na : ¬ a.2.2.2 < 8 * (xP x : Int) := fun q => c1 ⟨by omega, q⟩
      unfold upD
      by_cases z0 : c = 0
      · rw [if_pos z0]
        exact ⟨fun q => ⟨q.1, q.2, fun h => na (by rw [← h]; exact q.1)⟩, fun q => ⟨q.1, q.2.1⟩⟩
      · rw [if_neg z0]
        exact ⟨fun q => ⟨q.1, Or.inl q.2⟩, fun q => ⟨q.1, q.2.elim id (fun h => absurd (by rw [← h]; exact q.1) na)⟩⟩
