/-! EVERY CALL KEEPS THE INVARIANT -/
theorem inv_write {S : St} {t p : Nat} {m : Im} (h : Inv S) (ht : t < 8) (ha : sA S t = 1) (hp : p < 320) (hw : (sW S).2.2 p = -1 ∨ (sW S).2.2 p = (t : Int)) (hu : ∀ i, i < 6 → gd (sX S i) = true → noCl (xK (sX S i)) (wRow (sW S) p m t)) : Inv (sWrite S t p m) := by
  obtain ⟨h1, h2, h3, h4, h5⟩ := h
  refine ⟨h1, fun q hq => ?_, fun s hs hsa => ?_, xi_write hp h4, fun i hi hg => ?_⟩
  · show ((wRow (sW S) p m t).2.2 q = -1 ∧ (wRow (sW S) p m t).2.1 q = (wRow (sW S) p m t).1 q) ∨ ∃ t' : Nat, t' < 8 ∧ sA S t' = 1 ∧ (wRow (sW S) p m t).2.2 q = (t' : Int)
    by_cases c : q = p
    · subst c; exact Or.inr ⟨t, ht, ha, upN_s⟩
    · obtain ⟨b1, b2, b3⟩ := wRow_o (w := sW S) (m := m) (v := (t : Int)) c
      rw [b1, b2, b3]; exact h2 q hq
  · show RI s (wRow (sW S) p m t) (upN (sR S) t (sR S t ++ [(p, (sW S).2.1 p, (sW S).2.2 p)]) s).reverse
    by_cases c : s = t
    · subst c
      rw [upN_s, List.reverse_append]
      refine ⟨hp, upN_s, ?_, ?_⟩
      · show (sW S).2.2 p = (s : Int) ∨ ((sW S).2.2 p = -1 ∧ (sW S).2.1 p = (sW S).1 p)
        rcases hw with z | z
        · rcases h2 p hp with y | ⟨t', _, _, y⟩
          · exact Or.inr y
          · omega
        · exact Or.inl z
      · show RI s (wRow (wRow (sW S) p m s) p ((sW S).2.1 p) ((sW S).2.2 p)) (sR S s).reverse
        rw [wRow_back]
        exact h3 s hs ha
    · rw [upN_o c]
      exact RI_o (by rcases hw with z | z <;> omega) (by omega) (h3 s hs hsa)
  · have g := gdF_tell (wRow (sW S) p m t) ((sW S).2.1 p) p (sX S) i hg
    show noCl (xK (xTell (wRow (sW S) p m t) ((sW S).2.1 p) p (sX S i))) (wRow (sW S) p m t)
    have e : xK (xTell (wRow (sW S) p m t) ((sW S).2.1 p) p (sX S i)) = xK (sX S i) := g.2
    rw [e]
    exact hu i hi g.1
theorem inv_clS {S : St} {p : Nat} {m : Im} {v : Int} (h : Inv S) (hc : ¬ clS (sX S) (wRow (sW S) p m v) p = true) : ∀ i, i < 6 → gd (sX S i) = true → noCl (xK (sX S i)) (wRow (sW S) p m v) := fun i hi hg => by
  refine noCl_write (h.2.2.2.2 i hi hg) ?_
  apply Classical.byContradiction
  intro z
  exact hc (clS_iff.mpr ⟨i, hi, hg, z⟩)
theorem act_n {S : St} {t : Int} (h : Inv S) (ha : act S t) : ∃ n : Nat, t = n ∧ n < 8 ∧ sA S n = 1 := by
  obtain ⟨n, e⟩ : ∃ n : Nat, t = n := ⟨t.toNat, by omega⟩
  subst e
  have h3 := ha.2.2
  rw [Int.toNat_natCast] at h3
  refine ⟨n, rfl, by omega, ?_⟩
  rcases h.1 n (by omega) with z | z
  · exact absurd z h3
  · exact z
theorem inv_ins {S : St} {t a b c d : Int} (h : Inv S) : Inv (oIns S t a b c d).2 := by
  unfold oIns
  by_cases c1 : act S t
  · rw [if_neg (fun z => z c1)]
    obtain ⟨n, e, n8, ha⟩ := act_n h c1
    subst e
    rw [Int.toNat_natCast]
    by_cases c2 : frp (sW S) = -1 ∨ 200 ≤ (sR S n).length
    · rw [if_pos c2]; exact h
    · rw [if_neg c2]
      by_cases c3 : clS (sX S) (wRow (sW S) (frp (sW S)).toNat (some (a, b, c, d)) (n : Int)) (frp (sW S)).toNat = true
      · rw [if_pos c3]; exact h
      · rw [if_neg c3]
        rcases ff_in (f := fun p => decide ((sW S).2.2 p = -1) && ((sW S).2.1 p).isNone) (d := 320) (k := 0) with z | ⟨j, j1, _, j2, j3⟩
        · exact absurd (Or.inl z) c2
        · have e : frp (sW S) = (j : Int) := j1
          rw [e, Int.toNat_natCast] at c3 ⊢
          have j3 : (decide ((sW S).2.2 j = -1) && ((sW S).2.1 j).isNone) = true := j3
          rw [Bool.and_eq_true] at j3
          exact inv_write h n8 ha (by omega) (Or.inl (of_decide_eq_true j3.1)) (inv_clS h c3)
  · rw [if_pos c1]; exact h
theorem lkd_n {S : St} {t : Nat} {p : Int} {y : F4} (hl : ¬ lkd S t p) (hc : cuI S p = some y) : ∃ n : Nat, p = n ∧ n < 320 ∧ ((sW S).2.2 n = -1 ∨ (sW S).2.2 n = (t : Int)) := by
  unfold cuI at hc
  by_cases c : 0 ≤ p ∧ p < 320
  · obtain ⟨n, e⟩ : ∃ n : Nat, p = n := ⟨p.toNat, by omega⟩
    subst e
    refine ⟨n, rfl, by omega, ?_⟩
    apply Classical.byContradiction
    intro z
    refine hl ⟨by omega, by omega, ?_, ?_⟩
    · rw [Int.toNat_natCast]; exact fun y => z (Or.inl y)
    · rw [Int.toNat_natCast]; exact fun y => z (Or.inr y)
  · rw [if_neg c] at hc; cases hc
theorem inv_upd {S : St} {t p f x : Int} (h : Inv S) : Inv (oUpd S t p f x).2 := by
  unfold oUpd
  by_cases c1 : act S t
  · rw [if_neg (fun z => z c1)]
    obtain ⟨n, e, n8, ha⟩ := act_n h c1
    subst e
    by_cases c2 : 0 ≤ f ∧ f < 4
    · rw [if_neg (fun z => z c2)]
      by_cases c3 : lkd S (n : Int) p
      · rw [if_pos c3]; exact h
      · rw [if_neg c3]
        cases hc : cuI S p with
        | none => exact h
        | some y =>
          obtain ⟨pn, ep, p3, hw⟩ := lkd_n c3 hc
          subst ep
          show Inv (oUp2 S (n : Int).toNat (pn : Int).toNat y f.toNat x).2
          rw [Int.toNat_natCast, Int.toNat_natCast]
          unfold oUp2
          by_cases c4 : fv y f.toNat = x
          · rw [if_pos c4]; exact h
          · rw [if_neg c4]
            by_cases c5 : 200 ≤ (sR S n).length
            · rw [if_pos c5]; exact h
            · rw [if_neg c5]
              by_cases c6 : clS (sX S) (wRow (sW S) pn (some (setF y f.toNat x)) n) pn = true
              · rw [if_pos c6]; exact h
              · rw [if_neg c6]
                exact inv_write h n8 ha p3 hw (inv_clS h c6)
    · rw [if_pos c2]; exact h
  · rw [if_pos c1]; exact h
theorem inv_rem {S : St} {t p : Int} (h : Inv S) : Inv (oRem S t p).2 := by
  unfold oRem
  by_cases c1 : act S t
  · rw [if_neg (fun z => z c1)]
    obtain ⟨n, e, n8, ha⟩ := act_n h c1
    subst e
    by_cases c3 : lkd S (n : Int) p
    · rw [if_pos c3]; exact h
    · rw [if_neg c3]
      cases hc : cuI S p with
      | none => exact h
      | some y =>
        obtain ⟨pn, ep, p3, hw⟩ := lkd_n c3 hc
        subst ep
        show Inv (oRm2 S (n : Int).toNat (pn : Int).toNat).2
        rw [Int.toNat_natCast, Int.toNat_natCast]
        unfold oRm2
        by_cases c5 : 200 ≤ (sR S n).length
        · rw [if_pos c5]; exact h
        · rw [if_neg c5]
          exact inv_write h n8 ha p3 hw (fun i hi hg => noCl_rem p3 (h.2.2.2.2 i hi hg) hw)
  · rw [if_pos c1]; exact h
theorem rev_split {α : Type} (R : List α) (n : Nat) : R.reverse = (R.drop n).reverse ++ (R.take n).reverse := by
  rw [← List.reverse_append, List.take_append_drop]
theorem inv_undo1 {S : St} {t n : Nat} (h : Inv S) (ht : t < 8) (ha : sA S t = 1) (hn : n ≤ (sR S t).length) (hc : ¬ unCl S t n = true) : Inv (sUndo S t n) := by
  rw [← inv_unc h t n ht ha hn, inv_unp h t n ht ha hn] at hc
  obtain ⟨h1, h2, h3, h4, h5⟩ := h
  have ri := h3 t ht ha
  rw [rev_split (sR S t) n] at ri
  obtain ⟨x1, x2, x3⟩ := xi_un ((sR S t).drop n).reverse S (fun r hr => RI_320 ri r (List.mem_append.mpr (Or.inl hr))) h4
  have eW : sW (sUndo S t n) = unRow ((sR S t).drop n).reverse (sW S) := x2
  refine ⟨h1, ?_, fun s hs hsa => ?_, ?_, fun i hi hg => ?_⟩
  · rw [eW]; exact RwI_un ht ha ri h2
  · rw [eW]
    show RI s _ (upN (sR S) t ((sR S t).take n) s).reverse
    by_cases c : s = t
    · subst c; rw [upN_s]; exact RI_un ri
    · rw [upN_o c]; exact RI_un_o c ri (h3 s hs hsa)
  · rw [eW]; exact x1
  · rw [eW]
    have g := x3 i hg
    have e : xK (sX (sUndo S t n) i) = xK (sX S i) := g.2
    rw [e]
    refine noCl_of (P := fun q => (sW S).2.2 q = (t : Int)) (h5 i hi g.1) (fun p hp hP => ?_) (fun p _ hP => unRow_o ri p hP)
    refine clOf_no (Classical.byContradiction fun z => hc ?_)
    unfold unClP
    refine anyN_yes (j := p) (by omega) (by omega) ?_
    rw [Bool.and_eq_true]
    exact ⟨decide_eq_true hP, clS_iff.mpr ⟨i, hi, g.1, z⟩⟩
theorem inv_undo {S : St} {t n : Int} (h : Inv S) : Inv (oUndo S t n).2 := by
  unfold oUndo
  by_cases c1 : act S t
  · rw [if_neg (fun z => z c1)]
    obtain ⟨tn, e, n8, ha⟩ := act_n h c1
    subst e
    rw [Int.toNat_natCast]
    by_cases c2 : n < 0 ∨ (((sR S tn).length : Nat) : Int) < n
    · rw [if_pos c2]; exact h
    · rw [if_neg c2]
      unfold oUn2
      by_cases c3 : unCl S tn n.toNat = true
      · rw [if_pos c3]; exact h
      · rw [if_neg c3]; exact inv_undo1 h n8 ha (by omega) c3
  · rw [if_pos c1]; exact h
theorem upN_01 {A : Nat → Int} {t : Nat} (h : ∀ s, s < 8 → A s = 0 ∨ A s = 1) {v : Int} (hv : v = 0 ∨ v = 1) : ∀ s, s < 8 → upN A t v s = 0 ∨ upN A t v s = 1 := fun s hs => by
  by_cases c : s = t
  · rw [c, upN_s]; exact hv
  · rw [upN_o c]; exact h s hs
theorem upN_on {A : Nat → Int} {s t : Nat} (h : upN A t 0 s = 1) : s ≠ t ∧ A s = 1 := by
  by_cases c : s = t
  · rw [c, upN_s] at h; exact absurd h (by decide)
  · rw [upN_o c] at h; exact ⟨c, h⟩
theorem inv_abort {S : St} {t : Int} (h : Inv S) : Inv (oAbort S t).2 := by
  unfold oAbort
  by_cases c1 : act S t
  · rw [if_neg (fun z => z c1)]
    obtain ⟨tn, e, n8, ha⟩ := act_n h c1
    subst e
    rw [Int.toNat_natCast]
    obtain ⟨h1, h2, h3, h4, h5⟩ := h
    have ri := h3 tn n8 ha
    obtain ⟨x1, x2, x3⟩ := xi_un (sR S tn).reverse S (fun r hr => RI_320 ri r hr) h4
    have ri' : RI tn (sW S) ((sR S tn).reverse ++ []) := by rw [List.append_nil]; exact ri
    have eW : sW (sOff (sUndo S tn 0) tn) = unRow (sR S tn).reverse (sW S) := x2
    have uo := unRow_o ri'
    have ut := unRow_t ri
    refine ⟨upN_01 (A := sA S) h1 (Or.inl rfl), fun q hq => ?_, fun s hs hsa => ?_, ?_, fun i hi hg => ?_⟩
    · rw [eW]
      by_cases c : (sW S).2.2 q = (tn : Int)
      · obtain ⟨b1, b2, b3⟩ := ut q hq c
        exact Or.inl ⟨b3, by rw [b2, b1]⟩
      · obtain ⟨b1, b2, b3⟩ := uo q c
        rw [b1, b2, b3]
        rcases h2 q hq with z | ⟨t', y1, y2, y3⟩
        · exact Or.inl z
        · refine Or.inr ⟨t', y1, ?_, y3⟩
          show upN (sA S) tn 0 t' = 1
          rw [upN_o (fun z => c (by rw [y3, z]))]; exact y2
    · rw [eW]
      have hsa := upN_on (A := sA S) hsa
      show RI s _ (upN (sR S) tn ((sR S tn).take 0) s).reverse
      rw [upN_o hsa.1]
      exact RI_un_o hsa.1 ri' (h3 s hs hsa.2)
    · rw [eW]; exact x1
    · rw [eW]
      have g := x3 i hg
      have e : xK (sX (sOff (sUndo S tn 0) tn) i) = xK (sX S i) := g.2
      rw [e]
      have old := h5 i hi g.1
      refine noCl_of (P := fun q => (sW S).2.2 q = (tn : Int)) old (fun p hp hP q hq => ?_) (fun p _ hP => uo p hP)
      by_cases c : p = q
      · rw [c]; exact cl_self _ _ _
      · have o := (cl_f c).mp (old p q hp hq)
        obtain ⟨b1, b2, b3⟩ := ut p hp hP
        by_cases cq : (sW S).2.2 q = (tn : Int)
        · obtain ⟨d1, d2, d3⟩ := ut q hq cq
          rw [cl_f c, b1, b2, d1, d2]
          exact ⟨o.2.1, o.2.1, Or.inr ⟨o.2.1, o.2.1⟩⟩
        · obtain ⟨d1, d2, d3⟩ := uo q cq
          rw [cl_f c, b1, b2, d1, d2]
          rcases o.2.2 with z | z
          · exact absurd (by rw [← z.2]; exact hP) cq
          · exact ⟨z.2, o.2.1, Or.inr ⟨o.2.1, z.2⟩⟩
  · rw [if_pos c1]; exact h
theorem inv_commit {S : St} {t : Int} (h : Inv S) : Inv (oCommit S t).2 := by
  unfold oCommit
  by_cases c1 : act S t
  · rw [if_neg (fun z => z c1)]
    obtain ⟨tn, e, n8, ha⟩ := act_n h c1
    subst e
    rw [Int.toNat_natCast]
    obtain ⟨h1, h2, h3, h4, h5⟩ := h
    have xx := xi_cm tn 320 0 S (by omega) h4
    show Inv (sEnd (sCmL tn 320 0 S) S tn)
    revert xx
    generalize sCmL tn 320 0 S = Z
    intro xx
    obtain ⟨x1, x2, x3, x4, x5⟩ := xx
    have uo : ∀ q, ¬ (sW S).2.2 q = (tn : Int) → _ := fun q hq => x3 q (Or.inr (Or.inr hq))
    have ut : ∀ q, q < 320 → (sW S).2.2 q = (tn : Int) → _ := fun q hq => x4 q (by omega) (by omega)
    refine ⟨upN_01 (A := sA S) h1 (Or.inl rfl), fun q hq => ?_, fun s hs hsa => ?_, x1, fun i hi hg => ?_⟩
    · show ((sW Z).2.2 q = -1 ∧ (sW Z).2.1 q = (sW Z).1 q) ∨ ∃ t' : Nat, t' < 8 ∧ upN (sA S) tn 0 t' = 1 ∧ (sW Z).2.2 q = (t' : Int)
      by_cases c : (sW S).2.2 q = (tn : Int)
      · obtain ⟨b1, b2, b3⟩ := ut q hq c
        exact Or.inl ⟨b3, by rw [b2, b1]⟩
      · obtain ⟨b1, b2, b3⟩ := uo q c
        rw [b1, b2, b3]
        rcases h2 q hq with z | ⟨t', y1, y2, y3⟩
        · exact Or.inl z
        · refine Or.inr ⟨t', y1, ?_, y3⟩
          rw [upN_o (fun z => c (by rw [y3, z]))]; exact y2
    · have hsa := upN_on (A := sA S) hsa
      exact x5 s _ hsa.1 (h3 s hs hsa.2)
    · have g := x2 i hg
      show noCl (xK (sX Z i)) (sW Z)
      rw [g.2]
      have old := h5 i hi g.1
      refine noCl_of (P := fun q => (sW S).2.2 q = (tn : Int)) old (fun p hp hP q hq => ?_) (fun p _ hP => uo p hP)
      by_cases c : p = q
      · rw [c]; exact cl_self _ _ _
      · have o := (cl_f c).mp (old p q hp hq)
        obtain ⟨b1, b2, b3⟩ := ut p hp hP
        by_cases cq : (sW S).2.2 q = (tn : Int)
        · obtain ⟨d1, d2, d3⟩ := ut q hq cq
          rw [cl_f c, b1, b2, d1, d2]
          exact ⟨o.1, o.1, Or.inr ⟨o.1, o.1⟩⟩
        · obtain ⟨d1, d2, d3⟩ := uo q cq
          rw [cl_f c, b1, b2, d1, d2]
          rcases o.2.2 with z | z
          · exact absurd (by rw [← z.2]; exact hP) cq
          · exact ⟨o.1, z.1, Or.inr ⟨z.1, o.1⟩⟩
  · rw [if_pos c1]; exact h
theorem inv_begin {S : St} (h : Inv S) : Inv (oBegin S).2 := by
  unfold oBegin
  rcases ff_in (f := fun t => decide (sA S t = 0)) (d := 8) (k := 0) with z | ⟨j, j1, _, j2, j3⟩
  · rw [if_pos z]; exact h
  · rw [j1, if_neg (by omega), Int.toNat_natCast]
    have a0 : sA S j = 0 := of_decide_eq_true j3
    obtain ⟨h1, h2, h3, h4, h5⟩ := h
    refine ⟨upN_01 (A := sA S) h1 (Or.inr rfl), fun q hq => ?_, fun s hs hsa => ?_, h4, h5⟩
    · rcases h2 q hq with z | ⟨t', y1, y2, y3⟩
      · exact Or.inl z
      · refine Or.inr ⟨t', y1, ?_, y3⟩
        show upN (sA S) j 1 t' = 1
        by_cases c : t' = j
        · rw [c, upN_s]
        · rw [upN_o c]; exact y2
    · show RI s (sW S) (upN (sR S) j [] s).reverse
      by_cases c : s = j
      · subst c
        rw [upN_s]
        intro q hq z
        rcases h2 q hq with y | ⟨t', y1, y2, y3⟩
        · omega
        · have : t' = s := by omega
          subst this
          omega
      · rw [upN_o c]
        have hsa : upN (sA S) j 1 s = 1 := hsa
        rw [upN_o c] at hsa
        exact h3 s hs hsa
theorem inv_setX {S : St} {i : Nat} {x : Ix} (h : Inv S) (hx : xU x = 0 ∨ CIQ x (ents (xK x) (sW S))) (hu : gd x = true → noCl (xK x) (sW S)) : Inv (sSetX S i x) := by
  obtain ⟨h1, h2, h3, h4, h5⟩ := h
  refine ⟨h1, h2, h3, fun j hj => ?_, fun j hj hg => ?_⟩
  · show xU (upN (sX S) i x j) = 0 ∨ CIQ (upN (sX S) i x j) (ents (xK (upN (sX S) i x j)) (sW S))
    by_cases c : j = i
    · rw [c, upN_s]; exact hx
    · rw [upN_o c]; exact h4 j hj
  · have hg : gd (upN (sX S) i x j) = true := hg
    show noCl (xK (upN (sX S) i x j)) (sW S)
    by_cases c : j = i
    · rw [c, upN_s] at hg ⊢; exact hu hg
    · rw [upN_o c] at hg ⊢; exact h5 j hj hg
theorem keyOf_ok {a b c : Int} (h : isK a b c) : kyOK (keyOf a b c) := by
  unfold keyOf
  by_cases c1 : b = -1
  · rw [if_pos c1]
    refine ⟨Nat.le_refl _, by show 1 ≤ 3; omega, fun j hj => ?_⟩
    have hj : j < 1 := hj
    show (if j = 0 then a.toNat else if j = 1 then b.toNat else c.toNat) < 4
    rw [if_pos (by omega)]; omega
  · rw [if_neg c1]
    by_cases c2 : c = -1
    · rw [if_pos c2]
      refine ⟨by show 1 ≤ 2; omega, by show 2 ≤ 3; omega, fun j hj => ?_⟩
      have hj : j < 2 := hj
      show (if j = 0 then a.toNat else if j = 1 then b.toNat else c.toNat) < 4
      split
      · omega
      · split
        · omega
        · omega
    · rw [if_neg c2]
      refine ⟨by show 1 ≤ 3; omega, Nat.le_refl _, fun j hj => ?_⟩
      show (if j = 0 then a.toNat else if j = 1 then b.toNat else c.toNat) < 4
      split
      · omega
      · split
        · omega
        · omega
theorem inv_index {S : St} {a b c un : Int} (h : Inv S) : Inv (oIndex S a b c un).2 := by
  unfold oIndex
  by_cases c1 : isK a b c
  · rw [if_neg (fun z => z c1)]
    by_cases c2 : fxi S = -1
    · rw [if_pos c2]; exact h
    · rw [if_neg c2]
      refine inv_setX h (Or.inr ?_) (fun hg => ?_)
      · have nin : ∀ e, ¬ inTG (xStart un (keyOf a b c) (a, b, c)) e := fun e he => by
          rcases he with z | z
          · have z : e ∈ ([] : List E) := z
            cases z
          · have z : e ∈ ([] : List E) := z
            cases z
        refine ⟨rfl, keyOf_ok c1, tE_good, ⟨by show (1 : Int) ≤ 1; decide, by show (1 : Int) ≤ 5; decide, by show 0 ≤ 40; omega⟩, fun _ => ⟨by show 0 < 40; omega, List.Pairwise.nil⟩, fun _ => Nat.le_refl _, fun z => absurd (show (2 : Int) ≤ 1 from z) (by decide), fun z => absurd (show (3 : Int) ≤ 1 from z) (by decide), fun z => absurd (show (4 : Int) ≤ 1 from z) (by decide), fun z => absurd (show (1 : Int) = 5 from z) (by decide), fun _ => ⟨fun e => ⟨fun z => absurd z (nin e), fun ⟨z1, p, hp, he⟩ => ?_⟩, fun n => ⟨[], by simp, fun e he => ?_⟩, fun c' e hm => ?_⟩⟩
        · have z1 : e.2.2.2 < 8 * ((0 : Nat) : Int) := z1
          have := enP_pl he
          omega
        · have he : rp (inTG (xStart un (keyOf a b c) (a, b, c))) (([] : List (Int × E)).take n) e := he
          rw [List.take_nil] at he
          exact absurd he (nin e)
        · have hm : (c', e) ∈ ([] : List (Int × E)) := hm
          cases hm
      · unfold gd at hg
        have := (of_decide_eq_true hg).2.2
        exact absurd (show (1 : Int) = 4 from this) (by decide)
  · rw [if_pos c1]; exact h
theorem inv_drop {S : St} {i : Int} (h : Inv S) : Inv (oDrop S i).2 := by
  unfold oDrop
  by_cases c1 : isI S i
  · rw [if_neg (fun z => z c1)]
    refine inv_setX h (Or.inl rfl) (fun hg => ?_)
    unfold gd at hg
    exact absurd rfl (of_decide_eq_true hg).1
  · rw [if_pos c1]; exact h
theorem inv_step {S : St} {i n : Int} (h : Inv S) : Inv (oStep S i n).2 := by
  unfold oStep
  by_cases c1 : isI S i
  · rw [if_neg (fun z => z c1)]
    by_cases c2 : n < 1 ∨ 1000 < n
    · rw [if_pos c2]; exact h
    · rw [if_neg c2]
      have i6 : i.toNat < 6 := by have := c1.1; have := c1.2.1; omega
      have hc : CIQ (sX S i.toNat) (ents (xK (sX S i.toNat)) (sW S)) := by
        rcases h.2.2.2.1 i.toNat i6 with z | z
        · exact absurd z c1.2.2
        · exact z
      obtain ⟨s1, s2, s3, s4⟩ := ci_stN n.toNat rfl hc
      refine inv_setX h (Or.inr (by rw [s2]; exact s1)) (fun hg => ?_)
      rw [s2]
      unfold gd at hg
      have hg := of_decide_eq_true hg
      rw [s3] at hg
      by_cases c4 : xS (sX S i.toNat) = 4
      · exact h.2.2.2.2 i.toNat i6 (by unfold gd; exact decide_eq_true ⟨c1.2.2, hg.2.1, c4⟩)
      · exact clAny_no (s4 hg.2.2 c4 hg.2.1)
  · rw [if_pos c1]; exact h
theorem inv_where {S : St} {f lo hi : Int} (h : Inv S) : Inv (oWhere S f lo hi).2 := by
  unfold oWhere
  split
  · exact h
  · exact h
theorem inv_ask {S : St} {t w : Int} (h : Inv S) : Inv (oAsk S t w).2 := by
  unfold oAsk
  split
  · exact h
  · split
    · exact h
    · split
      · exact h
      · exact h
