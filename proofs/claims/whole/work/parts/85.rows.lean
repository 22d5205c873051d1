/-! INVARIANTS: clashes, records, rows -/
def noCl (k : Ky) (w : Rw) : Prop := ∀ p q, p < 320 → q < 320 → cl k w p q = false
theorem clOf_no {k : Ky} {w : Rw} {p : Nat} (h : clOf k w p = -1) : ∀ q, q < 320 → cl k w p q = false := fun q hq => ff_m1 h q (by omega) (by omega)
theorem clOf_ne {k : Ky} {w : Rw} {p q : Nat} (hq : q < 320) (h : cl k w p q = true) : ¬ clOf k w p = -1 := fun z => by rw [clOf_no z q hq] at h; cases h
theorem clOf_ex {k : Ky} {w : Rw} {p : Nat} (h : ¬ clOf k w p = -1) : ∃ q, q < 320 ∧ cl k w p q = true := by
  rcases ff_in (f := cl k w p) (d := 320) (k := 0) with c | ⟨j, _, _, j2, j3⟩
  · exact absurd c h
  · exact ⟨j, by omega, j3⟩
theorem clAny_no {k : Ky} {w : Rw} (h : clAny k w = -1) : noCl k w := fun p q hp hq => by
  have := ff_m1 h p (by omega) (by omega)
  have : ¬ clOf k w p ≠ -1 := of_decide_eq_false this
  exact clOf_no (Classical.byContradiction this) q hq
theorem cl_cg {k : Ky} {w w' : Rw} {p q : Nat} (hp : w'.1 p = w.1 p ∧ w'.2.1 p = w.2.1 p ∧ w'.2.2 p = w.2.2 p) (hq : w'.1 q = w.1 q ∧ w'.2.1 q = w.2.1 q ∧ w'.2.2 q = w.2.2 q) : cl k w' p q = cl k w p q := by
  unfold cl
  rw [hp.1, hp.2.1, hp.2.2, hq.1, hq.2.1, hq.2.2]
/-- no clash, taken apart -/
theorem cl_f {k : Ky} {w : Rw} {p q : Nat} (hne : p ≠ q) : cl k w p q = false ↔ (sk k (w.2.1 p) (w.2.1 q) = false ∧ sk k (w.1 p) (w.1 q) = false ∧ ((w.2.2 p ≠ -1 ∧ w.2.2 p = w.2.2 q) ∨ (sk k (w.2.1 p) (w.1 q) = false ∧ sk k (w.1 p) (w.2.1 q) = false))) := by
  unfold cl
  rw [decide_eq_true hne, Bool.true_and]
  by_cases c : w.2.2 p ≠ -1 ∧ w.2.2 p = w.2.2 q
  · rw [decide_eq_true c]
    simp only [Bool.not_true, Bool.false_and, Bool.or_false, Bool.or_eq_false_iff]
    exact ⟨fun h => ⟨h.1, h.2, Or.inl c⟩, fun h => ⟨h.1, h.2.1⟩⟩
  · rw [decide_eq_false c]
    simp [c]
theorem cl_self (k : Ky) (w : Rw) (p : Nat) : cl k w p p = false := by
  unfold cl
  rw [decide_eq_false (fun h => h rfl), Bool.false_and]
theorem noCl_of {k : Ky} {w w' : Rw} {P : Nat → Prop} (h : noCl k w) (h1 : ∀ p, p < 320 → P p → ∀ q, q < 320 → cl k w' p q = false) (h2 : ∀ p, p < 320 → ¬ P p → w'.1 p = w.1 p ∧ w'.2.1 p = w.2.1 p ∧ w'.2.2 p = w.2.2 p) : noCl k w' := fun p q hp hq => by
  by_cases c1 : P p
  · exact h1 p hp c1 q hq
  · by_cases c2 : P q
    · rw [cl_sym]; exact h1 q hq c2 p hp
    · rw [cl_cg (h2 p hp c1) (h2 q hq c2)]; exact h p q hp hq
theorem wRow_o {w : Rw} {p q : Nat} {m : Im} {v : Int} (h : q ≠ p) : (wRow w p m v).1 q = w.1 q ∧ (wRow w p m v).2.1 q = w.2.1 q ∧ (wRow w p m v).2.2 q = w.2.2 q := ⟨rfl, upN_o h, upN_o h⟩
theorem noCl_write {k : Ky} {w : Rw} {p : Nat} {m : Im} {v : Int} (h : noCl k w) (hc : clOf k (wRow w p m v) p = -1) : noCl k (wRow w p m v) :=
  noCl_of (P := fun q => q = p) h (fun q _ e r hr => by subst e; exact clOf_no hc r hr) (fun q _ e => wRow_o e)
theorem noCl_rem {k : Ky} {w : Rw} {p : Nat} {t : Nat} (hp : p < 320) (h : noCl k w) (hw : w.2.2 p = -1 ∨ w.2.2 p = (t : Int)) : noCl k (wRow w p none t) := by
  refine noCl_of (P := fun q => q = p) h (fun q _ e r hr => ?_) (fun q _ e => wRow_o e)
  subst e
  by_cases c : q = r
  · rw [← c]; exact cl_self _ _ _
  · have o := (cl_f c).mp (h q r hp hr)
    have a1 : (wRow w q none t).2.1 q = none := upN_s
    have a2 : (wRow w q none t).2.2 q = (t : Int) := upN_s
    obtain ⟨r1, r2, r3⟩ := wRow_o (w := w) (m := none) (v := (t : Int)) (fun z => c z.symm : r ≠ q)
    have a3 : (wRow w q none t).1 q = w.1 q := rfl
    rw [cl_f c, a1, a2, a3, r1, r2, r3, sk_n1, sk_n1]
    refine ⟨rfl, o.2.1, ?_⟩
    rcases o.2.2 with z | z
    · refine Or.inl ⟨by omega, ?_⟩
      rcases hw with y | y
      · exact absurd y z.1
      · rw [← z.2, y]
    · exact Or.inr ⟨rfl, z.2⟩
/-- a transaction's records, newest first, against the rows -/
def RI (t : Nat) : Rw → List Rc → Prop
  | w, [] => ∀ q, q < 320 → ¬ w.2.2 q = (t : Int)
  | w, r :: l => r.1 < 320 ∧ w.2.2 r.1 = (t : Int) ∧ (r.2.2 = (t : Int) ∨ (r.2.2 = -1 ∧ r.2.1 = w.1 r.1)) ∧ RI t (wRow w r.1 r.2.1 r.2.2) l
theorem upN_comm {α : Type} {f : Nat → α} {p q : Nat} {a b : α} (h : p ≠ q) : upN (upN f p a) q b = upN (upN f q b) p a := by
  funext j
  unfold upN
  by_cases c1 : j = q
  · subst c1
    rw [if_pos rfl, if_neg (fun z => h z.symm), if_pos rfl]
  · rw [if_neg c1]
    by_cases c2 : j = p
    · rw [if_pos c2, if_pos c2]
    · rw [if_neg c2, if_neg c2, if_neg c1]
theorem wRow_comm {w : Rw} {p q : Nat} {m m' : Im} {v v' : Int} (h : p ≠ q) : wRow (wRow w p m v) q m' v' = wRow (wRow w q m' v') p m v := by
  unfold wRow
  rw [upN_comm h, upN_comm h]
theorem wRow_back {w : Rw} {p : Nat} {m : Im} {v : Int} : wRow (wRow w p m v) p (w.2.1 p) (w.2.2 p) = w := by
  have e : ∀ {α : Type} (f : Nat → α) (a : α), upN (upN f p a) p (f p) = f := fun f a => by
    funext j
    unfold upN
    by_cases c : j = p
    · rw [if_pos c, c]
    · rw [if_neg c, if_neg c]
  unfold wRow
  rw [e, e]
theorem RI_o {s : Nat} : ∀ {l : List Rc} {w : Rw} {p : Nat} {m : Im} {v : Int}, ¬ w.2.2 p = (s : Int) → ¬ v = (s : Int) → RI s w l → RI s (wRow w p m v) l
  | [], w, p, m, v, h1, h2, h => fun q hq => by
    by_cases c : q = p
    · subst c
      have : (wRow w q m v).2.2 q = v := upN_s
      rw [this]; exact h2
    · rw [(wRow_o c).2.2]; exact h q hq
  | r :: l, w, p, m, v, h1, h2, ⟨a1, a2, a3, a4⟩ => by
    have ne : r.1 ≠ p := fun c => h1 (by rw [← c]; exact a2)
    refine ⟨a1, by rw [(wRow_o ne).2.2]; exact a2, a3, ?_⟩
    rw [wRow_comm (fun z => ne z.symm)]
    exact RI_o (by rw [(wRow_o (fun z => ne z.symm)).2.2]; exact h1) h2 a4
def cmR (w : Rw) (p : Nat) : Rw := (upN w.1 p (w.2.1 p), w.2.1, upN w.2.2 p (-1))
theorem RI_c {s : Nat} : ∀ {l : List Rc} {w : Rw} {p : Nat}, ¬ w.2.2 p = (s : Int) → RI s w l → RI s (cmR w p) l
  | [], w, p, h1, h => fun q hq => by
    by_cases c : q = p
    · subst c
      have : (cmR w q).2.2 q = -1 := upN_s
      rw [this]; omega
    · have : (cmR w p).2.2 q = w.2.2 q := upN_o c
      rw [this]; exact h q hq
  | r :: l, w, p, h1, ⟨a1, a2, a3, a4⟩ => by
    have ne : r.1 ≠ p := fun c => h1 (by rw [← c]; exact a2)
    have e1 : (cmR w p).2.2 r.1 = w.2.2 r.1 := upN_o ne
    have e2 : (cmR w p).1 r.1 = w.1 r.1 := upN_o ne
    refine ⟨a1, e1.trans a2, by rw [e2]; exact a3, ?_⟩
    have e3 : wRow (cmR w p) r.1 r.2.1 r.2.2 = cmR (wRow w r.1 r.2.1 r.2.2) p := by
      unfold wRow cmR
      dsimp only
      rw [upN_comm (fun z => ne z.symm), upN_o (fun z => ne z.symm)]
    rw [e3]
    exact RI_c (by rw [(wRow_o (fun z => ne z.symm)).2.2]; exact h1) a4
theorem RI_mem {t : Nat} : ∀ {l : List Rc} {w : Rw}, RI t w l → ∀ q, q < 320 → (w.2.2 q = (t : Int) ↔ ∃ r, r ∈ l ∧ r.1 = q)
  | [], w, h, q, hq => ⟨fun z => absurd z (h q hq), fun ⟨r, hr, _⟩ => by cases hr⟩
  | r :: l, w, ⟨a1, a2, a3, a4⟩, q, hq => by
    by_cases c : q = r.1
    · subst c; exact ⟨fun _ => ⟨r, List.mem_cons_self, rfl⟩, fun _ => a2⟩
    · have ih := RI_mem a4 q hq
      rw [(wRow_o c).2.2] at ih
      refine ih.trans ⟨fun ⟨r', h1, h2⟩ => ⟨r', List.mem_cons_of_mem _ h1, h2⟩, fun ⟨r', h1, h2⟩ => ?_⟩
      rcases List.mem_cons.mp h1 with h | h
      · subst h; exact absurd h2.symm c
      · exact ⟨r', h, h2⟩
theorem RI_un {t : Nat} : ∀ {l1 l2 : List Rc} {w : Rw}, RI t w (l1 ++ l2) → RI t (unRow l1 w) l2
  | [], _, _, h => h
  | _ :: l1, l2, w, h => RI_un (l1 := l1) (l2 := l2) h.2.2.2
theorem RI_320 {t : Nat} : ∀ {l : List Rc} {w : Rw}, RI t w l → ∀ r, r ∈ l → r.1 < 320
  | _ :: l, w, h, r', hr => by
    rcases List.mem_cons.mp hr with c | c
    · subst c; exact h.1
    · exact RI_320 h.2.2.2 r' c
/-- rows of other transactions stand while one undoes -/
theorem unRow_o {t : Nat} : ∀ {l1 l2 : List Rc} {w : Rw}, RI t w (l1 ++ l2) → ∀ q, ¬ w.2.2 q = (t : Int) → (unRow l1 w).1 q = w.1 q ∧ (unRow l1 w).2.1 q = w.2.1 q ∧ (unRow l1 w).2.2 q = w.2.2 q
  | [], _, _, _, _, _ => ⟨rfl, rfl, rfl⟩
  | r :: l1, l2, w, ⟨a1, a2, a3, a4⟩, q, hq => by
    have ne : q ≠ r.1 := fun c => hq (by rw [c]; exact a2)
    obtain ⟨b1, b2, b3⟩ := wRow_o (w := w) (m := r.2.1) (v := r.2.2) ne
    obtain ⟨c1, c2, c3⟩ := unRow_o (l1 := l1) (l2 := l2) a4 q (by rw [b3]; exact hq)
    exact ⟨c1.trans b1, c2.trans b2, c3.trans b3⟩
theorem unRow_n {l : List Rc} : ∀ {w : Rw} {q : Nat}, (∀ r, r ∈ l → r.1 ≠ q) → (unRow l w).1 q = w.1 q ∧ (unRow l w).2.1 q = w.2.1 q ∧ (unRow l w).2.2 q = w.2.2 q := by
  induction l with
  | nil => exact fun _ => ⟨rfl, rfl, rfl⟩
  | cons r l ih =>
    intro w q h
    obtain ⟨b1, b2, b3⟩ := wRow_o (w := w) (m := r.2.1) (v := r.2.2) (fun z => h r List.mem_cons_self z.symm : q ≠ r.1)
    obtain ⟨c1, c2, c3⟩ := ih (w := wRow w r.1 r.2.1 r.2.2) (q := q) (fun r' hr => h r' (List.mem_cons_of_mem _ hr))
    exact ⟨c1.trans b1, c2.trans b2, c3.trans b3⟩
/-- all undone: the places are as committed -/
theorem unRow_t {t : Nat} : ∀ {l : List Rc} {w : Rw}, RI t w l → ∀ q, q < 320 → w.2.2 q = (t : Int) → (unRow l w).1 q = w.1 q ∧ (unRow l w).2.1 q = w.1 q ∧ (unRow l w).2.2 q = -1
  | [], w, h, q, hq, z => absurd z (h q hq)
  | r :: l, w, ⟨a1, a2, a3, a4⟩, q, hq, z => by
    by_cases c : q = r.1
    · subst c
      have v : (wRow w r.1 r.2.1 r.2.2).2.2 r.1 = r.2.2 := upN_s
      have m : (wRow w r.1 r.2.1 r.2.2).2.1 r.1 = r.2.1 := upN_s
      rcases a3 with h | ⟨h1, h2⟩
      · exact unRow_t a4 r.1 hq (v.trans h)
      · have := unRow_o (l1 := l) (l2 := []) (by rw [List.append_nil]; exact a4) r.1 (by rw [v, h1]; omega)
        exact ⟨this.1, this.2.1.trans (m.trans h2), this.2.2.trans (v.trans h1)⟩
    · obtain ⟨b1, b2, b3⟩ := wRow_o (w := w) (m := r.2.1) (v := r.2.2) c
      have := unRow_t a4 q hq (b3.trans z)
      exact ⟨this.1, this.2.1, this.2.2⟩
def RwI (A : Nat → Int) (w : Rw) : Prop := ∀ p, p < 320 → (w.2.2 p = -1 ∧ w.2.1 p = w.1 p) ∨ ∃ t : Nat, t < 8 ∧ A t = 1 ∧ w.2.2 p = (t : Int)
theorem RwI_un {A : Nat → Int} {t : Nat} (ht : t < 8) (ha : A t = 1) : ∀ {l1 l2 : List Rc} {w : Rw}, RI t w (l1 ++ l2) → RwI A w → RwI A (unRow l1 w)
  | [], _, _, _, h => h
  | r :: l1, l2, w, ⟨a1, a2, a3, a4⟩, h => by
    refine RwI_un ht ha (l1 := l1) (l2 := l2) a4 (fun p hp => ?_)
    by_cases c : p = r.1
    · subst c
      have v : (wRow w r.1 r.2.1 r.2.2).2.2 r.1 = r.2.2 := upN_s
      have m : (wRow w r.1 r.2.1 r.2.2).2.1 r.1 = r.2.1 := upN_s
      rcases a3 with h | ⟨h1, h2⟩
      · exact Or.inr ⟨t, ht, ha, v.trans h⟩
      · exact Or.inl ⟨v.trans h1, m.trans h2⟩
    · obtain ⟨b1, b2, b3⟩ := wRow_o (w := w) (m := r.2.1) (v := r.2.2) c
      rw [b1, b2, b3]
      exact h p hp
theorem RI_un_o {s t : Nat} (hst : s ≠ t) {l : List Rc} : ∀ {l1 l2 : List Rc} {w : Rw}, RI t w (l1 ++ l2) → RI s w l → RI s (unRow l1 w) l
  | [], _, _, _, h => h
  | r :: l1, l2, w, ⟨a1, a2, a3, a4⟩, h => by
    refine RI_un_o hst (l1 := l1) (l2 := l2) a4 (RI_o (by rw [a2]; omega) ?_ h)
    rcases a3 with h | ⟨h1, _⟩ <;> omega
