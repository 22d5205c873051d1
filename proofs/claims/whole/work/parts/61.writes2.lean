/-! MORE WRITES, class -/
abbrev lkd (S : St) (t p : Int) : Prop := 0 ≤ p ∧ p < 320 ∧ ¬ (sW S).2.2 p.toNat = -1 ∧ ¬ (sW S).2.2 p.toNat = t
def cuI (S : St) (p : Int) : Im := if 0 ≤ p ∧ p < 320 then (sW S).2.1 p.toNat else none
def setF (y : F4) (f : Nat) (v : Int) : F4 := match f with
  | 0 => (v, y.2)
  | 1 => (y.1, v, y.2.2)
  | 2 => (y.1, y.2.1, v, y.2.2.2)
  | _ => (y.1, y.2.1, y.2.2.1, v)
def oUp2 (S : St) (t : Nat) (p : Nat) (y : F4) (f : Nat) (x : Int) : Int × St := if fv y f = x then (0, S) else if 200 ≤ (sR S t).length then (-104, S) else if clS (sX S) (wRow (sW S) p (some (setF y f x)) t) p = true then (-105, S) else (1, sWrite S t p (some (setF y f x)))
def oUpd (S : St) (t p f x : Int) : Int × St := if ¬ act S t then (-101, S) else if ¬ (0 ≤ f ∧ f < 4) then (-102, S) else if lkd S t p then (-103, S) else match cuI S p with
  | some y => oUp2 S t.toNat p.toNat y f.toNat x
  | none => (-101, S)
def oRm2 (S : St) (t p : Nat) : Int × St := if 200 ≤ (sR S t).length then (-104, S) else (1, sWrite S t p none)
def oRem (S : St) (t p : Int) : Int × St := if ¬ act S t then (-101, S) else if lkd S t p then (-103, S) else match cuI S p with
  | some _ => oRm2 S t.toNat p.toNat
  | none => (-101, S)
set_option maxHeartbeats 4000000 in
theorem c_update {I : Mm} {K : Int → Mm → Prop} {S : St} {t p f x : Int} (it : inR t) (ip : inR p) (i_f : inR f) (ix : inR x) (hS : RSC I S) (hO : SOK S)
    (hK : ∀ I' : Mm, HFr I I' → RSC I' (oUpd S t p f x).2 → K (oUpd S t p f x).1 I') : CallZ 88 [.inr (0, 0, 0), .inl (1, t), .inl (1, p), .inl (1, f), .inl (1, x)] I K := by
  have hS0 := hS
  obtain ⟨r1, r2, r3, r4, r5⟩ := hS
  unfold oUpd at hK
  refine callZ_of rfl (b_c_update it ip i_f ix ⟨fun z => ?_, fun z => ⟨fun z2 => ?_, fun z2 => ⟨by omega, ?_⟩⟩⟩)
  · rw [if_pos (fun c => absurd c.1 (by omega))] at hK
    exact hK I (fun _ _ => rfl) hS0
  · rw [if_pos (fun c => absurd c.2.1 (by omega))] at hK
    exact hK I (fun _ _ => rfl) hS0
  · obtain ⟨tn, htn⟩ : ∃ tn : Nat, t = tn := ⟨t.toNat, by omega⟩
    subst htn
    have t8 : tn < 8 := by omega
    obtain ⟨x1, x2⟩ := r2 tn t8
    rw [Int.toNat_natCast, x1]
    refine ⟨fun z3 => ?_, fun z3 => ⟨fun z4 => ?_, fun z4 => ⟨fun z5 => ?_, fun z5 => ?_⟩⟩⟩
    · rw [if_pos (fun c => c.2.2 (by rw [Int.toNat_natCast]; exact z3))] at hK
      exact hK I (fun _ _ => rfl) hS0
    · rw [if_neg (fun c => c ⟨by omega, by omega, by rw [Int.toNat_natCast]; exact z3⟩), if_pos (fun c => absurd c.1 (by omega))] at hK
      exact hK I (fun _ _ => rfl) hS0
    · rw [if_neg (fun c => c ⟨by omega, by omega, by rw [Int.toNat_natCast]; exact z3⟩), if_pos (fun c => absurd c.2 (by omega))] at hK
      exact hK I (fun _ _ => rfl) hS0
    · rw [if_neg (fun c => c ⟨by omega, by omega, by rw [Int.toNat_natCast]; exact z3⟩), if_neg (fun c => c ⟨by omega, by omega⟩)] at hK
      have ha : sA S tn = 1 := by rcases hO.1 tn t8 with h | h; exact absurd h z3; exact h
      obtain ⟨x3, x4, x5⟩ := x2 z3
      have body : ¬ lkd S (tn : Int) p → (p < 0 → (rZ K) (some (.inl (2, (-101)))) I) ∧ (¬ p < 0 → (320 ≤ p → (rZ K) (some (.inl (2, (-101)))) I) ∧ (¬ 320 ≤ p → (0 ≤ (wr ((p * 5) + 4)) ∧ (wr ((p * 5) + 4)) < 1600) ∧ ((rd I 5 (wr ((p * 5) + 4)).toNat = 0 → (rZ K) (some (.inl (2, (-101)))) I) ∧ (¬ rd I 5 (wr ((p * 5) + 4)).toNat = 0 → (0 ≤ (wr ((p * 5) + f)) ∧ (wr ((p * 5) + f)) < 1600) ∧ ((rd I 5 (wr ((p * 5) + f)).toNat = x → (rZ K) (some (.inl (2, 0))) I) ∧ (¬ rd I 5 (wr ((p * 5) + f)).toNat = x → (0 ≤ (tn : Int) ∧ (tn : Int) < 8) ∧ ((rd I (22 + 5 * (tn : Int).toNat) 1 < 200 → (0 ≤ (wr (p * 5)) ∧ 0 ≤ (0 : Int) ∧ 0 ≤ (5 : Int) ∧ (wr (p * 5)) + (5 : Int) ≤ 1600 ∧ (0 : Int) + (5 : Int) ≤ 5) ∧ (∀ I1, I1 = cp I 5 16 (wr (p * 5)).toNat 0 5 → (0 ≤ (wr (0 + f)) ∧ (wr (0 + f)) < 5) ∧ (∀ I2, I2 = wt I1 16 (wr (0 + f)).toNat x → CallZ 103 [.inr (0, 0, 0), .inl (1, (tn : Int)), .inl (1, p)] I2 (fun x1 I3 => (x1 = 0 → CallV 100 [.inr (0, 0, 0), .inl (1, (tn : Int)), .inl (1, p)] I3 (fun I4 => (rZ K) (some (.inl (2, 1))) I4)) ∧ (¬ x1 = 0 → (rZ K) (some (.inl (2, (-105)))) I3))))) ∧ (¬ rd I (22 + 5 * (tn : Int).toNat) 1 < 200 → (rZ K) (some (.inl (2, (-104)))) I)))))))) := by
        intro hlk
        rw [if_neg hlk] at hK
        refine ⟨fun z => ?_, fun z => ⟨fun z' => ?_, fun z' => ?_⟩⟩
        · have : cuI S p = none := if_neg (fun c => absurd c.1 (by omega))
          rw [this] at hK
          exact hK I (fun _ _ => rfl) hS0
        · have : cuI S p = none := if_neg (fun c => absurd c.2 (by omega))
          rw [this] at hK
          exact hK I (fun _ _ => rfl) hS0
        · obtain ⟨pn, hpn⟩ : ∃ pn : Nat, p = pn := ⟨p.toNat, by omega⟩
          obtain ⟨fn, hfn⟩ : ∃ fn : Nat, f = fn := ⟨f.toNat, by omega⟩
          subst hpn
          subst hfn
          have p3 : pn < 320 := by omega
          have f4 : fn < 4 := by omega
          have cue : cuI S (pn : Int) = (sW S).2.1 pn := by unfold cuI; rw [if_pos ⟨by omega, by omega⟩, Int.toNat_natCast]
          have cu : imC I 5 pn = (sW S).2.1 pn := (r1 pn p3).2.1
          rw [cue] at hK
          have wf : wr ((pn : Int) * 5 + (fn : Int)) = ((5 * pn + fn : Nat) : Int) := wrn _ (by omega) (by omega)
          have w4 : wr ((pn : Int) * 5 + 4) = ((5 * pn + 4 : Nat) : Int) := wrn _ (by omega) (by omega)
          have w5 : wr ((pn : Int) * 5) = ((5 * pn : Nat) : Int) := wrn _ (by omega) (by omega)
          have w0 : wr (0 + (fn : Int)) = (fn : Int) := wrn _ (by omega) (by omega)
          rw [w4, wf, w5, w0]
          simp only [Int.toNat_natCast] at hK ⊢
          refine ⟨by omega, fun z6 => ?_, fun z6 => ⟨by omega, ?_⟩⟩
          · rw [imC_none z6] at cu
            rw [← cu] at hK
            exact hK I (fun _ _ => rfl) hS0
          · obtain ⟨y, hy⟩ := imC_ex z6
            rw [hy] at cu
            rw [← cu] at hK
            have hK : ∀ I' : Mm, HFr I I' → RSC I' (oUp2 S tn pn y fn x).2 → K (oUp2 S tn pn y fn x).1 I' := hK
            unfold oUp2 at hK
            rw [imC_fv hy f4]
            refine ⟨fun z7 => ?_, fun z7 => ⟨by omega, ?_⟩⟩
            · rw [if_pos z7] at hK
              exact hK I (fun _ _ => rfl) hS0
            · rw [if_neg z7] at hK
              rw [x3]
              refine ⟨fun z8 => ⟨by omega, ?_⟩, fun z8 => ?_⟩
              · rw [if_neg (show ¬ 200 ≤ (sR S tn).length by omega)] at hK
                intro I1 e1
                have c1 := imC_cp (I := I) (J := I1) (a := 5) (b := 16) (p := pn) (q := 0) (n := 0) e1 (by omega)
                refine ⟨by omega, ?_⟩
                intro I2 e2
                have q2 : ∀ c, c ≠ 16 → I2 c = I c := fun c c6 => by rw [e2, wt_a _ _ _ _ c6, c1.2.2 c c6]
                have i1 : imC I1 16 0 = some y := by rw [c1.1]; exact hy
                have m2 : imC I2 16 0 = some (setF y fn x) := by
                  have g : ∀ j, j ≠ fn → rd I2 16 j = rd I1 16 j := fun j hj => by rw [e2, rd_wt_k _ _ _ _ hj]
                  have gs : rd I2 16 fn = x := by rw [e2, rd_wt_s _ _ _ ix]
                  have h4 : ¬ rd I1 16 4 = 0 := by
                    intro z9
                    rw [imC_none (I := I1) (c := 16) (p := 0) z9] at i1
                    cases i1
                  have v : ∀ j, j < 4 → rd I1 16 j = fv y j := fun j hj => by
                    have := imC_fv (p := 0) i1 hj
                    rw [show 5 * 0 + j = j by omega] at this
                    exact this
                  rw [imC_some (I := I2) (c := 16) (p := 0) (by show ¬ rd I2 16 4 = 0; rw [g 4 (by omega)]; exact h4)]
                  show some (rd I2 16 0, rd I2 16 1, rd I2 16 2, rd I2 16 3) = _
                  rcases fn with _ | _ | _ | _ | fn
                  · rw [gs, g 1 (by omega), g 2 (by omega), g 3 (by omega), v 1 (by omega), v 2 (by omega), v 3 (by omega)]; rfl
                  · rw [gs, g 0 (by omega), g 2 (by omega), g 3 (by omega), v 0 (by omega), v 2 (by omega), v 3 (by omega)]; rfl
                  · rw [gs, g 0 (by omega), g 1 (by omega), g 3 (by omega), v 0 (by omega), v 1 (by omega), v 3 (by omega)]; rfl
                  · rw [gs, g 0 (by omega), g 1 (by omega), g 2 (by omega), v 0 (by omega), v 1 (by omega), v 2 (by omega)]; rfl
                  · omega
                have S2 : RSC I2 S := rsc_of (fun c _ _ _ _ c6 => q2 c c6) hS0
                refine c_wouldClash t8 p3 S2.1 hO.2.2 S2.2.2.1 (sok_k hO) m2 ?_
                intro I7 f7
                cases hc : clS (sX S) (wRow (sW S) pn (some (setF y fn x)) tn) pn with
                | true =>
                  rw [if_pos hc] at hK
                  refine ⟨fun z9 => absurd z9 (by decide), fun _ => ?_⟩
                  exact hK I7 (fun c hc => by rw [f7 c (by omega) (by omega) (by omega), q2 c (by omega)]) (rsc_of (fun c _ c9 c1 c2 _ => f7 c c9 c1 c2) S2)
                | false =>
                  rw [if_neg (by rw [hc]; decide)] at hK
                  refine ⟨fun _ => ?_, fun z9 => absurd rfl z9⟩
                  refine c_write (m := some (setF y fn x)) (rsc_of (fun c _ c9 c1 c2 _ => f7 c c9 c1 c2) S2) t8 p3 ha (by omega) (by rw [imC_cg (f7 16 (by omega) (by omega) (by omega))]; exact m2) hO.2.1 ?_
                  intro I8 g1 g2
                  exact hK I8 (fun c hc => by rw [g1 c hc, f7 c (by omega) (by omega) (by omega), q2 c (by omega)]) g2
              · rw [if_pos (show 200 ≤ (sR S tn).length by omega)] at hK
                exact hK I (fun _ _ => rfl) hS0
      simp only [Int.toNat_natCast] at body
      refine ⟨fun zp => body (fun c => absurd c.1 (by omega)), fun zp => ⟨fun zq => body (fun c => absurd c.2.1 (by omega)), fun zq => ⟨by omega, ?_⟩⟩⟩
      have wv : rd I 6 p.toNat = (sW S).2.2 p.toNat := (r1 p.toNat (by omega)).2.2
      rw [wv]
      refine ⟨fun z => body (fun c => c.2.2.1 z), fun z => ⟨by omega, fun z' => body (fun c => c.2.2.2 z'), fun z' => ?_⟩⟩
      rw [if_pos ⟨by omega, by omega, z, z'⟩] at hK
      exact hK I (fun _ _ => rfl) hS0
set_option maxHeartbeats 4000000 in
theorem c_remove {I : Mm} {K : Int → Mm → Prop} {S : St} {t p : Int} (it : inR t) (ip : inR p) (hS : RSC I S) (hO : SOK S)
    (hK : ∀ I' : Mm, HFr I I' → RSC I' (oRem S t p).2 → K (oRem S t p).1 I') : CallZ 89 [.inr (0, 0, 0), .inl (1, t), .inl (1, p)] I K := by
  have hS0 := hS
  obtain ⟨r1, r2, r3, r4, r5⟩ := hS
  unfold oRem at hK
  refine callZ_of rfl (b_c_remove it ip ⟨fun z => ?_, fun z => ⟨fun z2 => ?_, fun z2 => ⟨by omega, ?_⟩⟩⟩)
  · rw [if_pos (fun c => absurd c.1 (by omega))] at hK
    exact hK I (fun _ _ => rfl) hS0
  · rw [if_pos (fun c => absurd c.2.1 (by omega))] at hK
    exact hK I (fun _ _ => rfl) hS0
  · obtain ⟨tn, htn⟩ : ∃ tn : Nat, t = tn := ⟨t.toNat, by omega⟩
    subst htn
    have t8 : tn < 8 := by omega
    obtain ⟨x1, x2⟩ := r2 tn t8
    rw [Int.toNat_natCast, x1]
    refine ⟨fun z3 => ?_, fun z3 => ?_⟩
    · rw [if_pos (fun c => c.2.2 (by rw [Int.toNat_natCast]; exact z3))] at hK
      exact hK I (fun _ _ => rfl) hS0
    · rw [if_neg (fun c => c ⟨by omega, by omega, by rw [Int.toNat_natCast]; exact z3⟩)] at hK
      have ha : sA S tn = 1 := by rcases hO.1 tn t8 with h | h; exact absurd h z3; exact h
      obtain ⟨x3, x4, x5⟩ := x2 z3
      have body : ¬ lkd S (tn : Int) p → (p < 0 → (rZ K) (some (.inl (2, (-101)))) I) ∧ (¬ p < 0 → (320 ≤ p → (rZ K) (some (.inl (2, (-101)))) I) ∧ (¬ 320 ≤ p → (0 ≤ (wr ((p * 5) + 4)) ∧ (wr ((p * 5) + 4)) < 1600) ∧ ((rd I 5 (wr ((p * 5) + 4)).toNat = 0 → (rZ K) (some (.inl (2, (-101)))) I) ∧ (¬ rd I 5 (wr ((p * 5) + 4)).toNat = 0 → (0 ≤ (tn : Int) ∧ (tn : Int) < 8) ∧ ((rd I (22 + 5 * (tn : Int).toNat) 1 < 200 → (0 ≤ (4 : Int) ∧ (4 : Int) < 5) ∧ (∀ I1, I1 = wt I 16 4 0 → CallV 100 [.inr (0, 0, 0), .inl (1, (tn : Int)), .inl (1, p)] I1 (fun I2 => (rZ K) (some (.inl (2, 1))) I2))) ∧ (¬ rd I (22 + 5 * (tn : Int).toNat) 1 < 200 → (rZ K) (some (.inl (2, (-104)))) I)))))) := by
        intro hlk
        rw [if_neg hlk] at hK
        refine ⟨fun z => ?_, fun z => ⟨fun z' => ?_, fun z' => ?_⟩⟩
        · have : cuI S p = none := if_neg (fun c => absurd c.1 (by omega))
          rw [this] at hK
          exact hK I (fun _ _ => rfl) hS0
        · have : cuI S p = none := if_neg (fun c => absurd c.2 (by omega))
          rw [this] at hK
          exact hK I (fun _ _ => rfl) hS0
        · obtain ⟨pn, hpn⟩ : ∃ pn : Nat, p = pn := ⟨p.toNat, by omega⟩
          subst hpn
          have p3 : pn < 320 := by omega
          have cue : cuI S (pn : Int) = (sW S).2.1 pn := by unfold cuI; rw [if_pos ⟨by omega, by omega⟩, Int.toNat_natCast]
          have cu : imC I 5 pn = (sW S).2.1 pn := (r1 pn p3).2.1
          rw [cue] at hK
          have w4 : wr ((pn : Int) * 5 + 4) = ((5 * pn + 4 : Nat) : Int) := wrn _ (by omega) (by omega)
          rw [w4]
          simp only [Int.toNat_natCast] at hK ⊢
          refine ⟨by omega, fun z6 => ?_, fun z6 => ⟨by omega, ?_⟩⟩
          · rw [imC_none z6] at cu
            rw [← cu] at hK
            exact hK I (fun _ _ => rfl) hS0
          · obtain ⟨y, hy⟩ := imC_ex z6
            rw [hy] at cu
            rw [← cu] at hK
            have hK : ∀ I' : Mm, HFr I I' → RSC I' (oRm2 S tn pn).2 → K (oRm2 S tn pn).1 I' := hK
            unfold oRm2 at hK
            rw [x3]
            refine ⟨fun z8 => ⟨by omega, ?_⟩, fun z8 => ?_⟩
            · rw [if_neg (show ¬ 200 ≤ (sR S tn).length by omega)] at hK
              intro I1 e1
              have q1 : ∀ c, c ≠ 16 → I1 c = I c := fun c c6 => by rw [e1, wt_a _ _ _ _ c6]
              refine c_write (m := none) (rsc_of (fun c _ _ _ _ c6 => q1 c c6) hS0) t8 p3 ha (by omega) (imC_none (I := I1) (c := 16) (p := 0) (by show rd I1 16 4 = 0; rw [e1, rd_wt_s _ _ _ ⟨by omega, by omega⟩])) hO.2.1 ?_
              intro I8 g1 g2
              exact hK I8 (fun c hc => by rw [g1 c hc, q1 c (by omega)]) g2
            · rw [if_pos (show 200 ≤ (sR S tn).length by omega)] at hK
              exact hK I (fun _ _ => rfl) hS0
      simp only [Int.toNat_natCast] at body
      refine ⟨fun zp => body (fun c => absurd c.1 (by omega)), fun zp => ⟨fun zq => body (fun c => absurd c.2.1 (by omega)), fun zq => ⟨by omega, ?_⟩⟩⟩
      have wv : rd I 6 p.toNat = (sW S).2.2 p.toNat := (r1 p.toNat (by omega)).2.2
      rw [wv]
      refine ⟨fun z => body (fun c => c.2.2.1 z), fun z => ⟨by omega, fun z' => body (fun c => c.2.2.2 z'), fun z' => ?_⟩⟩
      rw [if_pos ⟨by omega, by omega, z, z'⟩] at hK
      exact hK I (fun _ _ => rfl) hS0
/-- for calls of a transaction: not under way, or which it is -/
theorem act_cs {I : Mm} {S : St} {t : Int} {P : Prop} (hS : RSC I S) (hO : SOK S) (h0 : ¬ act S t → P) (h1 : ∀ tn : Nat, t = tn → tn < 8 → sA S tn = 1 → act S t → rd I (22 + 5 * tn) 0 = 1 → rd I (22 + 5 * tn) 1 = (sR S tn).length → (sR S tn).length ≤ 200 → P) : P := by
  by_cases c : act S t
  · obtain ⟨c1, c2, c3⟩ := c
    obtain ⟨tn, htn⟩ : ∃ tn : Nat, t = tn := ⟨t.toNat, by omega⟩
    subst htn
    rw [Int.toNat_natCast] at c3
    have t8 : tn < 8 := by omega
    obtain ⟨x1, x2⟩ := hS.2.1 tn t8
    have ha : sA S tn = 1 := by rcases hO.1 tn t8 with h | h; exact absurd h c3; exact h
    obtain ⟨x3, x4, x5⟩ := x2 c3
    exact h1 tn rfl t8 ha ⟨c1, c2, by rw [Int.toNat_natCast]; exact c3⟩ (by rw [x1, ha]) x3 x4
  · exact h0 c
theorem nact {I : Mm} {S : St} {t : Int} (hS : RSC I S) (h : ¬ act S t) (h1 : ¬ t < 0) (h2 : ¬ 8 ≤ t) : rd I (22 + 5 * t.toNat) 0 = 0 := by
  apply Classical.byContradiction
  intro c
  have := (hS.2.1 t.toNat (by omega)).1
  exact h ⟨by omega, by omega, by rw [← this]; exact c⟩
def oRec (S : St) (t : Int) : Int := if ¬ act S t then -101 else (((sR S t.toNat).length : Nat) : Int)
theorem c_records {I : Mm} {K : Int → Mm → Prop} {S : St} {t : Int} (it : inR t) (hS : RSC I S) (hO : SOK S) (hK : K (oRec S t) I) : CallZ 90 [.inr (0, 0, 0), .inl (1, t)] I K := by
  unfold oRec at hK
  refine act_cs (t := t) hS hO (fun hn => ?_) (fun tn e t8 ha hact a0 a1 a2 => ?_)
  · rw [if_pos hn] at hK
    refine callZ_of rfl (b_c_records it ⟨fun _ => hK, fun z => ⟨fun _ => hK, fun z2 => ⟨by omega, fun _ => hK, fun z3 => absurd (nact hS hn z z2) z3⟩⟩⟩)
  · rw [if_neg (fun c => c hact)] at hK
    subst e
    refine callZ_of rfl (b_c_records it ⟨fun z => absurd z (by omega), fun _ => ⟨fun z => absurd z (by omega), fun _ => ⟨by omega, ?_⟩⟩⟩)
    rw [Int.toNat_natCast] at hK ⊢
    rw [a0, a1]
    exact ⟨fun z => absurd z (by decide), fun _ => ⟨by omega, hK⟩⟩
/-- what undoing and committing ask -/
def SUK (S : St) : Prop := (∀ t, t < 8 → sA S t = 1 → ∀ n k i, i < 6 → tlOK (sX (sUnL (((sR S t).drop n).reverse.take k) S) i)) ∧ (∀ t, t < 8 → sA S t = 1 → ∀ k i, k ≤ 320 → i < 6 → tlOK (sX (sCmL t k 0 S) i)) ∧ (∀ t, t < 8 → sA S t = 1 → ∀ n, wOK (unRow ((sR S t).drop n).reverse (sW S)))
def oUn2 (S : St) (t n : Nat) : Int × St := if unCl S t n = true then (-105, S) else ((((sR S t).length - n : Nat) : Int), sUndo S t n)
def oUndo (S : St) (t n : Int) : Int × St := if ¬ act S t then (-101, S) else if n < 0 ∨ (((sR S t.toNat).length : Nat) : Int) < n then (-102, S) else oUn2 S t.toNat n.toNat
theorem c_undo {I : Mm} {K : Int → Mm → Prop} {S : St} {t n : Int} (it : inR t) (i_n : inR n) (hS : RSC I S) (hO : SOK S) (hU : SUK S)
    (hK : ∀ I' : Mm, HFr I I' → RSC I' (oUndo S t n).2 → K (oUndo S t n).1 I') : CallZ 91 [.inr (0, 0, 0), .inl (1, t), .inl (1, n)] I K := by
  unfold oUndo at hK
  refine act_cs (t := t) hS hO (fun hn => ?_) (fun tn e t8 ha hact a0 a1 a2 => ?_)
  · rw [if_pos hn] at hK
    have k := hK I (fun _ _ => rfl) hS
    refine callZ_of rfl (b_c_undo it i_n ⟨fun _ => k, fun z => ⟨fun _ => k, fun z2 => ⟨by omega, fun _ => k, fun z3 => absurd (nact hS hn z z2) z3⟩⟩⟩)
  · rw [if_neg (fun c => c hact)] at hK
    subst e
    rw [Int.toNat_natCast] at hK
    refine callZ_of rfl (b_c_undo it i_n ⟨fun z => absurd z (by omega), fun _ => ⟨fun z => absurd z (by omega), fun _ => ⟨by omega, ?_⟩⟩⟩)
    rw [Int.toNat_natCast, a0, a1]
    refine ⟨fun z => absurd z (by decide), fun _ => ⟨fun z => ?_, fun z => ⟨by omega, fun z2 => ?_, fun z2 => ?_⟩⟩⟩
    · rw [if_pos (Or.inl z)] at hK
      exact hK I (fun _ _ => rfl) hS
    · rw [if_neg (by omega)] at hK
      obtain ⟨nn, hnn⟩ : ∃ nn : Nat, n = nn := ⟨n.toNat, by omega⟩
      subst hnn
      rw [Int.toNat_natCast] at hK
      unfold oUn2 at hK
      refine c_undoWouldClash hS t8 ha (by omega) (sok_k hO) (hU.2.2 tn t8 ha nn) ?_
      intro I1 f1
      have S1 : RSC I1 S := rsc_of (fun c _ c9 c1 c2 _ => f1 c c9 c1 c2) hS
      cases hc : unCl S tn nn with
      | true =>
        rw [if_pos hc] at hK
        exact ⟨fun z => absurd z (by decide), fun _ => hK I1 (fun c hc => f1 c (by omega) (by omega) (by omega)) S1⟩
      | false =>
        rw [if_neg (by rw [hc]; decide)] at hK
        refine ⟨fun _ => ?_, fun z => absurd rfl z⟩
        refine c_undoTo S1 t8 ha (by omega) (fun k i hi => hU.1 tn t8 ha nn k i hi) ?_
        intro I2 g1 g2
        exact hK I2 (fun c hc => by rw [g1 c hc, f1 c (by omega) (by omega) (by omega)]) g2
    · rw [if_pos (Or.inr (by omega))] at hK
      exact hK I (fun _ _ => rfl) hS
def sOff (S : St) (t : Nat) : St := (S.1, (upN (sA S) t 0, sR S), S.2.2)
def oAbort (S : St) (t : Int) : Int × St := if ¬ act S t then (-101, S) else ((((sR S t.toNat).length : Nat) : Int), sOff (sUndo S t.toNat 0) t.toNat)
theorem c_abort {I : Mm} {K : Int → Mm → Prop} {S : St} {t : Int} (it : inR t) (hS : RSC I S) (hO : SOK S) (hU : SUK S)
    (hK : ∀ I' : Mm, HFr I I' → RSC I' (oAbort S t).2 → K (oAbort S t).1 I') : CallZ 93 [.inr (0, 0, 0), .inl (1, t)] I K := by
  unfold oAbort at hK
  refine act_cs (t := t) hS hO (fun hn => ?_) (fun tn e t8 ha hact a0 a1 a2 => ?_)
  · rw [if_pos hn] at hK
    have k := hK I (fun _ _ => rfl) hS
    refine callZ_of rfl (b_c_abort it ⟨fun _ => k, fun z => ⟨fun _ => k, fun z2 => ⟨by omega, fun _ => k, fun z3 => absurd (nact hS hn z z2) z3⟩⟩⟩)
  · rw [if_neg (fun c => c hact)] at hK
    subst e
    rw [Int.toNat_natCast] at hK
    refine callZ_of rfl (b_c_abort it ⟨fun z => absurd z (by omega), fun _ => ⟨fun z => absurd z (by omega), fun _ => ⟨by omega, ?_⟩⟩⟩)
    rw [Int.toNat_natCast, a0]
    refine ⟨fun z => absurd z (by decide), fun _ => ?_⟩
    refine callZ_fl (as' := [.inr (0, 0, 0), .inl (1, (tn : Int)), .inl (1, ((0 : Nat) : Int))]) rfl ?_
    refine c_undoTo hS t8 ha (Nat.zero_le _) (fun k i hi => hU.1 tn t8 ha 0 k i hi) ?_
    intro I1 g1 g2 v2 e2 _
    subst e2
    rw [Nat.sub_zero]
    refine ⟨by omega, ?_⟩
    intro I2 e2
    obtain ⟨s1, s2, s3, s4, s5⟩ := g2
    refine hK I2 (fun c hc => by rw [e2, wt_a _ _ _ _ (by omega), g1 c hc]) ⟨rowC_cg (by rw [e2, wt_a _ _ _ _ (by omega)]) (by rw [e2, wt_a _ _ _ _ (by omega)]) (by rw [e2, wt_a _ _ _ _ (by omega)]) s1, fun t' ht' => ?_, fun i hi => ixC_fr (fun c c1 c2 => by rw [e2, wt_a _ _ _ _ (by omega)]) (s3 i hi), bdC_cg (by rw [e2, wt_a _ _ _ _ (by omega)]) (by rw [e2, wt_a _ _ _ _ (by omega)]) s4, qsC_cg (by rw [e2, wt_a _ _ _ _ (by omega)]) (by rw [e2, wt_a _ _ _ _ (by omega)]) s5⟩
    show TxC I2 t' (upN (sA (sUndo S tn 0)) tn 0 t') (sR (sUndo S tn 0) t')
    by_cases c : t' = tn
    · subst c
      rw [upN_s]
      exact ⟨by rw [e2, rd_wt_s _ _ _ ⟨by omega, by omega⟩], fun z => absurd rfl z⟩
    · rw [upN_o c]
      exact txC_cg (fun c' h1 h2 => by rw [e2, wt_a _ _ _ _ (by omega)]) (s2 t' ht')
def oCommit (S : St) (t : Int) : Int × St := if ¬ act S t then (-101, S) else (((cCmL t.toNat 320 0 S : Nat) : Int), sCommit S t.toNat)
theorem c_commitO {I : Mm} {K : Int → Mm → Prop} {S : St} {t : Int} (it : inR t) (hS : RSC I S) (hO : SOK S) (hU : SUK S)
    (hK : ∀ I' : Mm, HFr I I' → RSC I' (oCommit S t).2 → K (oCommit S t).1 I') : CallZ 92 [.inr (0, 0, 0), .inl (1, t)] I K := by
  unfold oCommit at hK
  refine act_cs (t := t) hS hO (fun hn => ?_) (fun tn e t8 ha hact a0 a1 a2 => ?_)
  · rw [if_pos hn] at hK
    have k := hK I (fun _ _ => rfl) hS
    refine callZ_of rfl (b_c_commit it ⟨fun _ => k, fun z => ⟨fun _ => k, fun z2 => ⟨by omega, fun _ => k, fun z3 => absurd (nact hS hn z z2) z3⟩⟩⟩)
  · rw [if_neg (fun c => c hact)] at hK
    subst e
    rw [Int.toNat_natCast] at hK
    exact c_commit hS t8 ha (fun k i hk hi => hU.2.1 tn t8 ha k i hk hi) hK
def sBeg (S : St) (t : Nat) : St := (S.1, (upN (sA S) t 1, upN (sR S) t []), S.2.2)
def oBegin (S : St) : Int × St := if ff (fun t => decide (sA S t = 0)) 8 0 = -1 then (-104, S) else (ff (fun t => decide (sA S t = 0)) 8 0, sBeg S (ff (fun t => decide (sA S t = 0)) 8 0).toNat)
theorem c_begin {I : Mm} {K : Int → Mm → Prop} {S : St} (hS : RSC I S)
    (hK : ∀ I' : Mm, HFr I I' → RSC I' (oBegin S).2 → K (oBegin S).1 I') : CallZ 86 [.inr (0, 0, 0)] I K := by
  obtain ⟨r1, r2, r3, r4, r5⟩ := hS
  have loop : ∀ (d t : Nat), t + d = 8 → ff (fun t => decide (sA S t = 0)) d t = ff (fun t => decide (sA S t = 0)) 8 0 → GoA 86 2 [some (.inr (0, 0, 0)), some (.inl (1, (t : Int)))] [] I (rZ K) := by
    intro d
    induction d with
    | zero =>
      intro t ht hf
      refine b_c_begin_2 (inRn (by omega)) ⟨fun _ => ?_, fun z => absurd (by omega) z⟩
      unfold oBegin at hK
      have hf' : ff (fun t => decide (sA S t = 0)) 8 0 = -1 := hf.symm
      rw [if_pos hf'] at hK
      exact hK I (fun _ _ => rfl) ⟨r1, r2, r3, r4, r5⟩
    | succ d ih =>
      intro t ht hf
      have hf : (if decide (sA S t = 0) = true then (t : Int) else ff (fun t => decide (sA S t = 0)) d (t + 1)) = ff (fun t => decide (sA S t = 0)) 8 0 := hf
      have x1 := (r2 t (by omega)).1
      refine b_c_begin_2 (inRn (by omega)) ⟨fun z => absurd z (by omega), fun _ => ⟨by omega, ?_⟩⟩
      rw [Int.toNat_natCast, x1]
      refine ⟨fun z => ⟨by omega, ?_⟩, fun z => ?_⟩
      · rw [if_pos (decide_eq_true z)] at hf
        unfold oBegin at hK
        rw [← hf, if_neg (by omega), Int.toNat_natCast] at hK
        intro I1 e1
        refine ⟨by omega, ?_⟩
        intro I2 e2
        have q : ∀ c, c ≠ 22 + 5 * t → I2 c = I c := fun c hc => by rw [e2, wt_a _ _ _ _ hc, e1, wt_a _ _ _ _ hc]
        refine hK I2 (fun c hc => q c (by omega)) ⟨rowC_cg (q _ (by omega)) (q _ (by omega)) (q _ (by omega)) r1, fun t' ht' => ?_, fun i hi => ixC_fr (fun c c1 c2 => q c (by omega)) (r3 i hi), bdC_cg (q _ (by omega)) (q _ (by omega)) r4, qsC_cg (q _ (by omega)) (q _ (by omega)) r5⟩
        show TxC I2 t' (upN (sA S) t 1 t') (upN (sR S) t [] t')
        by_cases c : t' = t
        · subst c
          rw [upN_s, upN_s]
          exact ⟨by rw [e2, rd_wt_k _ _ _ _ (by omega), e1, rd_wt_s _ _ _ ⟨by omega, by omega⟩], fun _ => ⟨by rw [e2, rd_wt_s _ _ _ ⟨by omega, by omega⟩]; rfl, by simp, fun j p m v hj => by simp at hj⟩⟩
        · rw [upN_o c, upN_o c]
          exact txC_cg (fun c' h1 h2 => q c' (by omega)) (r2 t' ht')
      · rw [if_neg (by rw [decide_eq_true_eq]; exact z)] at hf
        intro v1 e1 _
        rw [wrn (t + 1) (by omega) (by omega)] at e1
        subst e1
        exact ih (t + 1) (by omega) hf
  exact callZ_of rfl (b_c_begin (loop 8 0 (by omega) rfl))
