/-! AN INDEX IS BUILT, class -/
abbrev Rw : Type := (Nat → Im) × (Nat → Im) × (Nat → Int)
def RowC (I : Mm) (R : Nat) (w : Rw) : Prop := ∀ p, p < 320 → imC I (R + 2) p = w.1 p ∧ imC I (R + 4) p = w.2.1 p ∧ rd I (R + 5) p = w.2.2 p
theorem rowC_cg {I J : Mm} {R : Nat} {w : Rw} (h2 : J (R + 2) = I (R + 2)) (h4 : J (R + 4) = I (R + 4)) (h5 : J (R + 5) = I (R + 5)) (h : RowC I R w) : RowC J R w := fun p hp => by
  have := h p hp
  exact ⟨(imC_cg h2 p).trans this.1, (imC_cg h4 p).trans this.2.1, (rd_of h5 p).trans this.2.2⟩
def ff (f : Nat → Bool) : Nat → Nat → Int
  | 0, _ => -1
  | d + 1, k => if f k then k else ff f d (k + 1)
theorem ff_no {f : Nat → Bool} : ∀ {d k : Nat}, (∀ j, k ≤ j → j < k + d → f j = false) → ff f d k = -1
  | 0, _, _ => rfl
  | d + 1, k, h => by
    show (if f k then (k : Int) else ff f d (k + 1)) = -1
    rw [h k (Nat.le_refl _) (by omega), if_neg (by decide)]
    exact ff_no (fun j h1 h2 => h j (by omega) (by omega))
theorem ff_in {f : Nat → Bool} : ∀ {d k : Nat}, ff f d k = -1 ∨ ∃ j : Nat, ff f d k = j ∧ k ≤ j ∧ j < k + d ∧ f j = true
  | 0, _ => Or.inl rfl
  | d + 1, k => by
    show (if f k then (k : Int) else ff f d (k + 1)) = -1 ∨ ∃ j : Nat, (if f k then (k : Int) else ff f d (k + 1)) = j ∧ _
    by_cases c : f k = true
    · rw [if_pos c]
      exact Or.inr ⟨k, rfl, Nat.le_refl _, by omega, c⟩
    · rw [if_neg c]
      rcases ff_in (f := f) (d := d) (k := k + 1) with h | ⟨j, h1, h2, h3, h4⟩
      · exact Or.inl h
      · exact Or.inr ⟨j, h1, by omega, by omega, h4⟩
/-- two places clash -/
def cl (k : Ky) (w : Rw) (p q : Nat) : Bool := decide (p ≠ q) && (sk k (w.2.1 p) (w.2.1 q) || (sk k (w.1 p) (w.1 q) || (!decide (w.2.2 p ≠ -1 ∧ w.2.2 p = w.2.2 q) && (sk k (w.2.1 p) (w.1 q) || sk k (w.1 p) (w.2.1 q)))))
def clOf (k : Ky) (w : Rw) (p : Nat) : Int := ff (cl k w p) 320 0
def clAny (k : Ky) (w : Rw) : Int := ff (fun p => decide (clOf k w p ≠ -1)) 320 0
theorem sk_n1 (k : Ky) (b : Im) : sk k none b = false := rfl
theorem sk_n2 (k : Ky) (a : Im) : sk k a none = false := by cases a <;> rfl
theorem b01_0 {b : Bool} : b01 b = 0 ↔ b = false := by cases b <;> decide
set_option maxHeartbeats 2000000 in
theorem c_isClash {B R p q : Nat} {I : Mm} {K : Int → Mm → Prop} {fa fb : Nat} {k : Ky} {w : Rw} (hB : isX B) (hR : isW R) (hk : kyOK k) (hC : kyC I B k) (hw : RowC I R w) (hp : p < 320) (hq : q < 320) (hpq : p ≠ q) (h : K (b01 (cl k w p q)) I) : CallZ 32 [.inr (2, B, 0), .inr (6, R, 0), .inl (fa, (p : Int)), .inl (fb, (q : Int))] I K := by
  have gC : isG (R + 1) := by rcases hR with rfl | rfl <;> unfold isG <;> omega
  have gU : isG (R + 3) := by rcases hR with rfl | rfl <;> unfold isG <;> omega
  have cp : imC I (R + 1 + 1) p = w.1 p := (hw p hp).1
  have cq : imC I (R + 1 + 1) q = w.1 q := (hw q hq).1
  have up : imC I (R + 3 + 1) p = w.2.1 p := (hw p hp).2.1
  have uq : imC I (R + 3 + 1) q = w.2.1 q := (hw q hq).2.1
  have wp : rd I (R + 5) p = w.2.2 p := (hw p hp).2.2
  have wq : rd I (R + 5) q = w.2.2 q := (hw q hq).2.2
  unfold cl at h
  rw [decide_eq_true hpq, Bool.true_and] at h
  have cross : K (b01 (sk k (w.2.1 p) (w.1 q) || sk k (w.1 p) (w.2.1 q))) I → CallZ 18 [.inr (2, B, 0), .inr (6, R, 3), .inl (1, (p : Int)), .inr (6, R, 1), .inl (1, (q : Int))] I (fun x3 I3 => (x3 = 0 → CallZ 18 [.inr (2, B, 0), .inr (6, R, 1), .inl (1, (p : Int)), .inr (6, R, 3), .inl (1, (q : Int))] I3 (fun x4 I4 => (x4 = 0 → (rZ K) (some (.inl (2, 0))) I4) ∧ (¬ x4 = 0 → (rZ K) (some (.inl (2, 1))) I4))) ∧ (¬ x3 = 0 → (rZ K) (some (.inl (2, 1))) I3)) := by
    intro hh
    refine callZ_fl (as' := [.inr (2, B, 0), .inr (4, R + 3, 0), .inl (1, (p : Int)), .inr (4, R + 1, 0), .inl (1, (q : Int))]) rfl ?_
    refine c_hok_44 hB gU gC hk hC hp hq ?_
    rw [up, cq]
    cases s1 : sk k (w.2.1 p) (w.1 q) with
    | true =>
      rw [s1] at hh
      exact ⟨fun z => absurd z (by decide), fun _ => hh⟩
    | false =>
      rw [s1, Bool.false_or] at hh
      refine ⟨fun _ => ?_, fun z => absurd rfl z⟩
      refine callZ_fl (as' := [.inr (2, B, 0), .inr (4, R + 1, 0), .inl (1, (p : Int)), .inr (4, R + 3, 0), .inl (1, (q : Int))]) rfl ?_
      refine c_hok_44 hB gC gU hk hC hp hq ?_
      rw [cp, uq]
      cases s2 : sk k (w.1 p) (w.2.1 q) with
      | true => rw [s2] at hh; exact ⟨fun z => absurd z (by decide), fun _ => hh⟩
      | false => rw [s2] at hh; exact ⟨fun _ => hh, fun z => absurd rfl z⟩
  refine callZ_fl (as' := [.inr (2, B, 0), .inr (6, R, 0), .inl (1, (p : Int)), .inl (1, (q : Int))]) rfl ?_
  refine callZ_of rfl (b_isClash hB hR (inRn (by omega)) (inRn (by omega)) ?_)
  refine callZ_fl (as' := [.inr (2, B, 0), .inr (4, R + 3, 0), .inl (1, (p : Int)), .inr (4, R + 3, 0), .inl (1, (q : Int))]) rfl ?_
  refine c_hok_44 hB gU gU hk hC hp hq ?_
  rw [up, uq]
  cases s1 : sk k (w.2.1 p) (w.2.1 q) with
  | true =>
    rw [s1] at h
    exact ⟨fun z => absurd z (by decide), fun _ => h⟩
  | false =>
    rw [s1, Bool.false_or] at h
    refine ⟨fun _ => ?_, fun z => absurd rfl z⟩
    refine callZ_fl (as' := [.inr (2, B, 0), .inr (4, R + 1, 0), .inl (1, (p : Int)), .inr (4, R + 1, 0), .inl (1, (q : Int))]) rfl ?_
    refine c_hok_44 hB gC gC hk hC hp hq ?_
    rw [cp, cq]
    cases s2 : sk k (w.1 p) (w.1 q) with
    | true =>
      rw [s2] at h
      exact ⟨fun z => absurd z (by decide), fun _ => h⟩
    | false =>
      rw [s2, Bool.false_or] at h
      refine ⟨fun _ => ?_, fun z => absurd rfl z⟩
      rw [Int.toNat_natCast, Int.toNat_natCast, wp, wq]
      refine ⟨by omega, fun z => ?_, fun z => ⟨by omega, by omega, fun z2 => ?_, fun z2 => ?_⟩⟩
      · rw [decide_eq_false (fun c => c.1 z), Bool.not_false, Bool.true_and] at h
        exact cross h
      · rw [decide_eq_true ⟨z, z2⟩, Bool.not_true, Bool.false_and] at h
        exact h
      · rw [decide_eq_false (fun c => z2 c.2), Bool.not_false, Bool.true_and] at h
        exact cross h
set_option maxHeartbeats 1000000 in
theorem c_lcw {B R p : Nat} {I : Mm} {K : Int → Mm → Prop} {fa : Nat} {k : Ky} {w : Rw} (hB : isX B) (hR : isW R) (hk : kyOK k) (hC : kyC I B k) (hw : RowC I R w) (hp : p < 320) (h : K (clOf k w p) I) : CallZ 31 [.inr (2, B, 0), .inr (6, R, 0), .inl (fa, (p : Int))] I K := by
  have loop : ∀ (d q : Nat), q + d = 320 → K (ff (cl k w p) d q) I → GoA 31 26 [some (.inr (2, B, 0)), some (.inr (6, R, 0)), some (.inl (1, (p : Int))), some (.inl (1, (q : Int)))] [] I (rZ K) := by
    intro d
    induction d with
    | zero =>
      intro q hq hh
      refine b_lcw_26 hB hR (inRn (by omega)) (inRn (by omega)) ⟨fun _ => hh, fun z => absurd (by omega) z⟩
    | succ d ih =>
      intro q hq hh
      have hh : K (if cl k w p q then (q : Int) else ff (cl k w p) d (q + 1)) I := hh
      refine b_lcw_26 hB hR (inRn (by omega)) (inRn (by omega)) ⟨fun z => absurd z (by omega), fun _ => ⟨fun z => ?_, fun z => ?_⟩⟩
      · intro v3 e3 _
        rw [wrn (q + 1) (by omega) (by omega)] at e3
        subst e3
        have : cl k w p q = false := by unfold cl; rw [decide_eq_false (fun c => c (by omega)), Bool.false_and]
        rw [this, if_neg (by decide)] at hh
        exact ih (q + 1) (by omega) hh
      · refine c_isClash hB hR hk hC hw hp (by omega) (fun c => z (by omega)) ⟨fun z2 => ?_, fun z2 => ?_⟩
        · intro v3 e3 _
          rw [wrn (q + 1) (by omega) (by omega)] at e3
          subst e3
          rw [b01_0.mp z2, if_neg (by decide)] at hh
          exact ih (q + 1) (by omega) hh
        · have : cl k w p q = true := by
            cases hc : cl k w p q with
            | true => rfl
            | false => exact absurd (b01_0.mpr hc) z2
          rw [this, if_pos rfl] at hh
          exact hh
  refine callZ_fl (as' := [.inr (2, B, 0), .inr (6, R, 0), .inl (1, (p : Int))]) rfl ?_
  refine callZ_of rfl (b_lcw hB hR (inRn (by omega)) ?_)
  rw [wrn (5 * p + 4) (by omega) (by omega), Int.toNat_natCast]
  have go := loop 320 0 (by omega) h
  refine ⟨by omega, fun z => ⟨by omega, fun z2 => ?_, fun _ => go⟩, fun _ => go⟩
  have u0 : w.2.1 p = none := by rw [← (hw p hp).2.1]; exact imC_none z
  have c0 : w.1 p = none := by rw [← (hw p hp).1]; exact imC_none z2
  have : clOf k w p = -1 := by
    refine ff_no (fun q _ _ => ?_)
    unfold cl
    rw [u0, c0]
    simp only [sk_n1]
    cases decide (p ≠ q) <;> cases decide (w.2.2 p ≠ -1 ∧ w.2.2 p = w.2.2 q) <;> rfl
  rw [this] at h
  exact h
set_option maxHeartbeats 1000000 in
theorem c_lwc {B : Nat} {I : Mm} {K : Int → Mm → Prop} {k : Ky} {w : Rw} (hB : isX B) (hk : kyOK k) (hC : kyC I B k) (hw : RowC I 1 w) (h : K (clAny k w) I) : CallZ 30 [.inr (2, B, 0), .inr (0, 0, 1)] I K := by
  have loop : ∀ (d p : Nat), p + d = 320 → K (ff (fun p => decide (clOf k w p ≠ -1)) d p) I → GoA 30 2 [some (.inr (2, B, 0)), some (.inr (0, 0, 1)), some (.inl (1, (p : Int)))] [] I (rZ K) := by
    intro d
    induction d with
    | zero =>
      intro p hp hh
      exact b_lwc_2 hB (inRn (by omega)) ⟨fun _ => hh, fun z => absurd (by omega) z⟩
    | succ d ih =>
      intro p hp hh
      have hh : K (if decide (clOf k w p ≠ -1) = true then (p : Int) else ff (fun p => decide (clOf k w p ≠ -1)) d (p + 1)) I := hh
      refine b_lwc_2 hB (inRn (by omega)) ⟨fun z => absurd z (by omega), fun _ => ?_⟩
      refine callZ_fl (as' := [.inr (2, B, 0), .inr (6, 1, 0), .inl (1, (p : Int))]) rfl ?_
      refine c_lcw hB (Or.inl rfl) hk hC hw (by omega) ⟨fun z => ?_, fun z => ?_⟩
      · intro v2 e2 _
        rw [wrn (p + 1) (by omega) (by omega)] at e2
        subst e2
        rw [if_neg (by rw [decide_eq_true_eq]; exact fun c => c z)] at hh
        exact ih (p + 1) (by omega) hh
      · rw [if_pos (by rw [decide_eq_true_eq]; exact z)] at hh
        exact hh
  exact callZ_of rfl (b_lwc hB (loop 320 0 (by omega) h))
def xFin (w : Rw) (x : Ix) : Ix := if xQ x = 0 then setS x 4 else if clAny (xK x) w = -1 then setS x 4 else xFail x (1, clAny (xK x) w, clOf (xK x) w (clAny (xK x) w).toNat)
/-- cells of an index's own row -/
theorem ixC_B {I J : Mm} {B : Nat} {x y : Ix} (hx : IxC I B x) (hU : xU x = 1) (h : ∀ c, B + 1 ≤ c → c ≤ B + 23 → J c = I c) (h0 : rd J B 0 = rd I B 0) (h1 : rd J B 1 = rd I B 1) (h2 : rd J B 2 = rd I B 2) (h4 : rd J B 4 = xS y ∧ rd J B 5 = xP y) (h6 : rd J B 6 = (xW y).1 ∧ rd J B 7 = (xW y).2.1 ∧ rd J B 8 = (xW y).2.2) (e1 : y.1 = x.1) (e2 : y.2.1 = x.2.1) (e3 : y.2.2.2.2 = x.2.2.2.2) (e4 : xS y = 1 → xS x = 1) : IxC J B y := by
  obtain ⟨a1, a2, a3⟩ := hx
  obtain ⟨b1, b2, b3, b4, b5, b6, b7, b8⟩ := a3 (by omega)
  have q1 : J (B + 1) = I (B + 1) := h _ (by omega) (by omega)
  refine ⟨by rw [h0, a1]; unfold xU; rw [e1], szOK_cg (h _ (by omega) (by omega)) a2, fun _ => ⟨by rw [h1, b1]; unfold xQ; rw [e1], ⟨by rw [h2, b2.1]; unfold xK; rw [e2], fun j hj => by rw [rd_of q1]; unfold xK; unfold xK at hj; rw [e2] at hj ⊢; exact b2.2 j hj⟩, by rw [rd_of q1, rd_of q1, rd_of q1]; unfold xF; rw [e2]; exact b3, h4, h6, ?_, ?_, ?_⟩⟩
  · unfold xT; rw [e3]; exact treeC_fr (fun c c1 c2 => h c (by omega) (by omega)) b6
  · unfold xL; rw [e3]; exact logC_cg (h _ (by omega) (by omega)) (h _ (by omega) (by omega)) (h _ (by omega) (by omega)) b7
  · have e5 : xG y = xG x := by unfold xG; rw [e3]
    rw [e5]
    obtain ⟨sz, tk, c0, c1, c2, c3, c4, c5⟩ := pkC_cg (h _ (by omega) (by omega)) (h _ (by omega) (by omega)) (h _ (by omega) (by omega)) b8
    exact ⟨sz, tk, fun z => c0 (e4 z), c1, c2, c3, c4, c5⟩
theorem xQ01 : True := trivial
set_option maxHeartbeats 2000000 in
theorem c_finish {B : Nat} {I : Mm} {K : Mm → Prop} {x : Ix} {w : Rw} (hB : isX B) (hU : xU x = 1) (hx : IxC I B x) (hk : kyOK (xK x)) (hw : RowC I 1 w) (hS : xS x = 3)
    (hK : ∀ I' : Mm, XFr I I' B → IxC I' B (xFin w x) → K I') : CallV 29 [.inr (2, B, 0), .inr (0, 0, 1)] I K := by
  have hx0 := hx
  obtain ⟨a1, a2, a3⟩ := hx
  obtain ⟨b1, b2, b3, b4, b5, b6, b7, b8⟩ := a3 (by omega)
  have ready : xFin w x = setS x 4 → ∀ I1, I1 = wt I B 4 4 → K I1 := by
    intro hf I1 e1
    refine hK I1 (fun c hc => by rw [e1, wt_a _ _ _ _ (by omega)]) ?_
    rw [hf]
    refine ixC_B (y := setS x 4) hx0 hU (fun c c1 c2 => by rw [e1, wt_a _ _ _ _ (by omega)]) (by rw [e1, rd_wt_k _ _ _ _ (by omega)]) (by rw [e1, rd_wt_k _ _ _ _ (by omega)]) (by rw [e1, rd_wt_k _ _ _ _ (by omega)]) ⟨by rw [e1, rd_wt_s _ _ _ ⟨by omega, by omega⟩]; rfl, by rw [e1, rd_wt_k _ _ _ _ (by omega)]; exact b4.2⟩ ⟨by rw [e1, rd_wt_k _ _ _ _ (by omega)]; exact b5.1, by rw [e1, rd_wt_k _ _ _ _ (by omega)]; exact b5.2.1, by rw [e1, rd_wt_k _ _ _ _ (by omega)]; exact b5.2.2⟩ rfl rfl rfl (fun z => absurd z (by show ¬ (4 : Int) = 1; decide))
  refine callV_of rfl (b_finish hB ?_)
  rw [b1]
  refine ⟨fun z => ready (if_pos z), fun z => ?_⟩
  refine c_lwc hB hk b2 hw ?_
  intro v2 e2 i2
  refine ⟨fun z2 => ready ?_, fun z2 => ?_⟩
  · rw [e2] at z2
    exact (if_neg z).trans (if_pos z2)
  · rw [e2] at z2
    have xf : xFin w x = xFail x (1, clAny (xK x) w, clOf (xK x) w (clAny (xK x) w).toNat) := (if_neg z).trans (if_neg z2)
    rw [xf] at hK
    obtain ⟨p, hp, hp2⟩ : ∃ p : Nat, clAny (xK x) w = p ∧ p < 320 := by
      rcases ff_in (f := fun p => decide (clOf (xK x) w p ≠ -1)) (d := 320) (k := 0) with h | ⟨j, h1, h2, h3, h4⟩
      · exact absurd h z2
      · exact ⟨j, h1, by omega⟩
    rw [hp] at e2 hK
    subst e2
    intro I3 e3
    have hx3 : IxC I3 B (x.1, x.2.1, x.2.2.1, ((xW x).1, (p : Int), (xW x).2.2), x.2.2.2.2) := by
      refine ixC_B hx0 hU (fun c c1 c2 => by rw [e3, wt_a _ _ _ _ (by omega)]) (by rw [e3, rd_wt_k _ _ _ _ (by omega)]) (by rw [e3, rd_wt_k _ _ _ _ (by omega)]) (by rw [e3, rd_wt_k _ _ _ _ (by omega)]) ⟨by rw [e3, rd_wt_k _ _ _ _ (by omega)]; exact b4.1, by rw [e3, rd_wt_k _ _ _ _ (by omega)]; exact b4.2⟩ ⟨by rw [e3, rd_wt_k _ _ _ _ (by omega)]; exact b5.1, by rw [e3, rd_wt_s _ _ _ (inRn (by omega))]; rfl, by rw [e3, rd_wt_k _ _ _ _ (by omega)]; exact b5.2.2⟩ rfl rfl rfl (fun z => z)
    have hb := isX_62 hB
    have hw3 : RowC I3 1 w := rowC_cg (by rw [e3, wt_a _ _ _ _ (by omega)]) (by rw [e3, wt_a _ _ _ _ (by omega)]) (by rw [e3, wt_a _ _ _ _ (by omega)]) hw
    have hC3 : kyC I3 B (xK x) := ⟨by rw [e3, rd_wt_k _ _ _ _ (by omega)]; exact b2.1, fun j hj => by rw [e3, rd_wt_a _ _ _ _ (by omega)]; exact b2.2 j hj⟩
    refine callZ_fl (as' := [.inr (2, B, 0), .inr (6, 1, 0), .inl (1, (p : Int))]) rfl ?_
    refine c_lcw hB (Or.inl rfl) hk hC3 hw3 hp2 ?_
    intro I5 e5
    have c2r : inR (clOf (xK x) w p) := by
      rcases ff_in (f := cl (xK x) w p) (d := 320) (k := 0) with h | ⟨j, h1, h2, h3, h4⟩
      · unfold clOf; rw [h]; exact ⟨by omega, by omega⟩
      · unfold clOf; rw [h1]; exact inRn (by omega)
    have hx5 : IxC I5 B (x.1, x.2.1, x.2.2.1, ((xW x).1, (p : Int), clOf (xK x) w p), x.2.2.2.2) := by
      obtain ⟨a1', a2', a3'⟩ := hx3
      have a3'' := a3' (by show ¬ xU x = 0; omega)
      obtain ⟨d1, d2, d3, d4, d5, d6, d7, d8⟩ := a3''
      refine ixC_B (x := (x.1, x.2.1, x.2.2.1, ((xW x).1, (p : Int), (xW x).2.2), x.2.2.2.2)) ⟨a1', a2', a3'⟩ hU (fun c c1 c2 => by rw [e5, wt_a _ _ _ _ (by omega)]) (by rw [e5, rd_wt_k _ _ _ _ (by omega)]) (by rw [e5, rd_wt_k _ _ _ _ (by omega)]) (by rw [e5, rd_wt_k _ _ _ _ (by omega)]) ⟨by rw [e5, rd_wt_k _ _ _ _ (by omega)]; exact d4.1, by rw [e5, rd_wt_k _ _ _ _ (by omega)]; exact d4.2⟩ ⟨by rw [e5, rd_wt_k _ _ _ _ (by omega)]; exact d5.1, by rw [e5, rd_wt_k _ _ _ _ (by omega)]; exact d5.2.1, by rw [e5, rd_wt_s _ _ _ c2r]; rfl⟩ rfl rfl rfl (fun z => z)
    refine c_failC (x := (x.1, x.2.1, x.2.2.1, ((xW x).1, (p : Int), clOf (xK x) w p), x.2.2.2.2)) hB ⟨by omega, by omega⟩ hU hx5 ?_
    intro I6 f1 f2
    refine hK I6 (fun c hc => by rw [f1 c hc, e5, wt_a _ _ _ _ (by omega), e3, wt_a _ _ _ _ (by omega)]) ?_
    rw [Int.toNat_natCast]
    exact f2
def xCatch (x : Ix) : Ix := match xL x with
  | (c, e) :: L => setL (setT x (stepT c e (xT x))) L
  | [] => x
set_option maxHeartbeats 2000000 in
theorem c_catchUp {B : Nat} {I : Mm} {K : Mm → Prop} {x : Ix} {c0 : Int} {e0 : E} {L : List (Int × E)} (hB : isX B) (hU : xU x = 1) (hx : IxC I B x) (hL : xL x = (c0, e0) :: L) (hg : good (xT x)) (hl : (lsT (xT x)).length ≤ 647)
    (hK : ∀ I' : Mm, XFr I I' B → IxC I' B (xCatch x) → K I') : CallV 28 [.inr (2, B, 0)] I K := by
  obtain ⟨a1, a2, a3⟩ := hx
  obtain ⟨b1, b2, b3, b4, b5, b6, b7, b8⟩ := a3 (by omega)
  obtain ⟨f, l1, l2, l3, l4, l5⟩ := b7
  obtain ⟨m1, m2, m3⟩ := l5 0 c0 e0 (by rw [hL]; rfl)
  have m0 : (f + 0) % 300 = f := by omega
  rw [m0] at m1 m2
  have len : (xL x).length = L.length + 1 := by rw [hL]; rfl
  have xc : xCatch x = setL (setT x (stepT c0 e0 (xT x))) L := by unfold xCatch; rw [hL]
  rw [xc] at hK
  have fin : ∀ I1 : Mm, (∀ c, c ≠ B + 2 → c ≠ B + 4 → c ≠ B + 5 → c ≠ B + 6 → c ≠ B + 7 → c ≠ B + 8 → c ≠ B + 9 → c ≠ B + 10 → c ≠ B + 11 → I1 c = I c) → TreeC I1 B (stepT c0 e0 (xT x)) → (rd I1 (B + 15) 2 ≤ 0 → rV K none I1) ∧ (¬ rd I1 (B + 15) 2 ≤ 0 → (0 ≤ (wr ((rd I1 (B + 15) 3) + 1)) ∧ 0 < (300 : Int)) ∧ (∀ I2, I2 = wt I1 (B + 15) 3 ((wr ((rd I1 (B + 15) 3) + 1)) % 300) → ∀ I3, I3 = wt I2 (B + 15) 2 ((rd I2 (B + 15) 2) - 1) → rV K none I3)) := by
    intro I1 f1 f2
    have hi : ∀ c, (c = B ∨ c = B + 1 ∨ B + 12 ≤ c) → I1 c = I c := fun c hc => f1 c (by omega) (by omega) (by omega) (by omega) (by omega) (by omega) (by omega) (by omega) (by omega)
    rw [rd_of (hi (B + 15) (by omega)), rd_of (hi (B + 15) (by omega)), l2, l3]
    refine ⟨fun z => absurd z (by omega), fun _ => ?_⟩
    have wv : wr ((f : Int) + 1) = ((f + 1 : Nat) : Int) := wrn _ (by omega) (by omega)
    rw [wv]
    refine ⟨by omega, ?_⟩
    intro I2 e2
    have em : ((f + 1 : Nat) : Int) % 300 = (((f + 1) % 300 : Nat) : Int) := rfl
    rw [em] at e2
    have r2 : rd I2 (B + 15) 2 = (xL x).length := by rw [e2, rd_wt_k _ _ _ _ (by omega), rd_of (hi (B + 15) (by omega)), l3]
    rw [r2]
    intro I3 e3
    have q : ∀ c, c ≠ B + 15 → I3 c = I1 c := fun c c1 => by rw [e3, wt_a _ _ _ _ c1, e2, wt_a _ _ _ _ c1]
    have h0 : I3 B = I B := by rw [q _ (by omega), hi _ (by omega)]
    have h1 : I3 (B + 1) = I (B + 1) := by rw [q _ (by omega), hi _ (by omega)]
    have sz : szOK I3 B := by
      obtain ⟨r, hC, _⟩ := f2
      exact szOK_cg (q _ (by omega)) hC.1
    have e17 : rd I3 (B + 17) = rd I (B + 17) := funext (fun j => by rw [rd_of (q _ (by omega)), rd_of (hi _ (by omega))])
    refine hK I3 (fun c hc => by rw [q c (by omega), f1 c (by omega) (by omega) (by omega) (by omega) (by omega) (by omega) (by omega) (by omega) (by omega)]) ⟨by rw [rd_of h0]; exact a1, sz, fun _ => ⟨by rw [rd_of h0]; exact b1, kyC_cg h0 h1 b2, by rw [rd_of h1, rd_of h1, rd_of h1]; exact b3, by rw [rd_of h0, rd_of h0]; exact b4, by rw [rd_of h0, rd_of h0, rd_of h0]; exact b5, treeC_fr (fun c c1 c2 => q c (by omega)) f2, ?_, pkC_cg (by rw [q _ (by omega), hi _ (by omega)]) (by rw [q _ (by omega), hi _ (by omega)]) (by rw [q _ (by omega), hi _ (by omega)]) b8⟩⟩
    show LogC I3 B L
    have m300 : (f + 1) % 300 < 300 := Nat.mod_lt _ (by omega)
    refine ⟨(f + 1) % 300, m300, by rw [e3, rd_wt_k _ _ _ _ (by omega), e2, rd_wt_s _ _ _ (inRn (by omega))], by rw [e3, rd_wt_s _ _ _ ⟨by omega, by omega⟩]; omega, by omega, fun j c e hj => ?_⟩
    have := l5 (j + 1) c e (by rw [hL]; exact hj)
    rw [show (f + (j + 1)) % 300 = ((f + 1) % 300 + j) % 300 by omega] at this
    rw [rd_of (q _ (by omega)), rd_of (hi _ (by omega)), e17]
    exact this
  refine callV_of rfl (b_catchUp hB ?_)
  rw [l2, Int.toNat_natCast, m1]
  refine ⟨by omega, m3, fun z => ?_, fun z => ?_⟩
  · refine c_cut_16 hB (by omega) b6 hg (by omega) ?_
    intro I1 f1 f2
    rw [m2] at f2
    refine fin I1 (fun c k2 k4 k5 k6 k7 k8 k9 k10 k11 => f1 c k2 k5 k6 k7 k8 k9 k10 k11) ?_
    unfold stepT; rw [if_pos z]; exact f2
  · refine c_add_16 hB (by omega) b6 hg hl ?_
    intro I1 f1 f2
    rw [m2] at f2
    refine fin I1 (fun c k2 k4 k5 k6 k7 k8 k9 k10 k11 => f1 c k2 k4 k6 k7 k8 k10 k11) ?_
    unfold stepT; rw [if_neg z]; exact f2
/-- what a step of loading does -/
def ld : Nat → Ix → Ix
  | 0, x => x
  | n + 1, x => match xG x with
    | [] => setS x 3
    | e :: G => ld n (setG (setT x (addT e (xT x))) G)
set_option maxHeartbeats 2000000 in
theorem c_loadSome {B : Nat} {I : Mm} {K : Mm → Prop} {x : Ix} (hB : isX B) (hU : xU x = 1) (hS : xS x = 2) (hx : IxC I B x) (hg : good (xT x)) (hl : (lsT (xT x)).length + (xG x).length ≤ 647)
    (hK : ∀ I' : Mm, XFr I I' B → IxC I' B (ld 16 x) → K I') : CallV 27 [.inr (2, B, 0)] I K := by
  have loop : ∀ (d k : Nat) (J : Mm) (y : Ix) (m2 : Option AV), okO m2 → k + d = 16 → XFr I J B → IxC J B y → xU y = 1 → xS y = 2 → good (xT y) → (lsT (xT y)).length + (xG y).length ≤ 647 → ld d y = ld 16 x → GoA 27 2 [some (.inr (2, B, 0)), some (.inl (1, (k : Int))), m2] [] J (rV K) := by
    intro d
    induction d with
    | zero =>
      intro k J y m2 o2 hk hF hy hUy hSy hgy hly hld
      refine b_loadSome_2 hB (inRn (by omega)) o2 ⟨fun _ => ?_, fun z => absurd (by omega) z⟩
      refine hK J hF ?_
      rw [← hld]
      exact hy
    | succ d ih =>
      intro k J y m2 o2 hk hF hy hUy hSy hgy hly hld
      have hy0 := hy
      obtain ⟨a1, a2, a3⟩ := hy
      obtain ⟨b1, b2, b3, b4, b5, b6, b7, b8⟩ := a3 (by omega)
      obtain ⟨sz, tk, c0, c1, c2, c3, c4, c5⟩ := b8
      refine b_loadSome_2 hB (inRn (by omega)) o2 ⟨fun z => absurd z (by omega), fun _ => ?_⟩
      rw [c3, c4, Int.toNat_natCast]
      cases hG : xG y with
      | nil =>
        rw [hG] at c1
        have c1' : tk = sz := c1
        refine ⟨fun z => absurd z (by omega), fun _ => ?_⟩
        intro I4 e4
        refine hK I4 (fun c hc => by rw [e4, wt_a _ _ _ _ (by omega), hF c hc]) ?_
        have : ld (d + 1) y = setS y 3 := by show (match xG y with | [] => setS y 3 | e :: G => _) = _; rw [hG]
        rw [← hld, this]
        refine ixC_B (y := setS y 3) hy0 hUy (fun c c1 c2 => by rw [e4, wt_a _ _ _ _ (by omega)]) (by rw [e4, rd_wt_k _ _ _ _ (by omega)]) (by rw [e4, rd_wt_k _ _ _ _ (by omega)]) (by rw [e4, rd_wt_k _ _ _ _ (by omega)]) ⟨by rw [e4, rd_wt_s _ _ _ ⟨by omega, by omega⟩]; rfl, by rw [e4, rd_wt_k _ _ _ _ (by omega)]; exact b4.2⟩ ⟨by rw [e4, rd_wt_k _ _ _ _ (by omega)]; exact b5.1, by rw [e4, rd_wt_k _ _ _ _ (by omega)]; exact b5.2.1, by rw [e4, rd_wt_k _ _ _ _ (by omega)]; exact b5.2.2⟩ rfl rfl rfl (fun z => absurd z (by show ¬ (3 : Int) = 1; decide))
      | cons e G =>
        rw [hG] at c1 c5 hly
        have c1' : tk + (G.length + 1) = sz := c1
        obtain ⟨o, o1, o2', o3⟩ := c5 0 e rfl
        have o1 : rd J (B + 22) tk = o := o1
        refine ⟨fun _ => ⟨by omega, ?_⟩, fun z => absurd (by omega) z⟩
        intro v1 e1 i1
        rw [o1] at e1
        intro I1 eI1 v2 e2 i2
        subst e1
        subst e2
        refine ⟨fun z => absurd z (by omega), fun _ => ?_⟩
        have q1 : ∀ c, c ≠ B + 19 → I1 c = J c := fun c c1 => by rw [eI1, wt_a _ _ _ _ c1]
        refine c_add_20 hB (by omega) (treeC_fr (fun c c1 c2 => q1 c (by omega)) b6) hgy (by simp at hly; omega) ?_
        intro I2 f1 f2 v3 e3 i3
        rw [wrn (k + 1) (by omega) (by omega)] at e3
        subst e3
        have ee : en4 (rd I1 (B + 21)) o = e := by
          rw [show rd I1 (B + 21) = rd J (B + 21) from funext (fun j => rd_of (q1 _ (by omega)) j)]
          exact o3
        rw [ee] at f2
        have hi : ∀ c, (c = B ∨ c = B + 1 ∨ B + 12 ≤ c) → I2 c = I1 c := fun c hc => f1 c (by omega) (by omega) (by omega) (by omega) (by omega) (by omega) (by omega)
        have h0 : I2 B = J B := by rw [hi _ (by omega), q1 _ (by omega)]
        have h1 : I2 (B + 1) = J (B + 1) := by rw [hi _ (by omega), q1 _ (by omega)]
        have szk : szOK I2 B := by
          obtain ⟨r, hC, _⟩ := f2
          exact hC.1
        have ag := add_good (e := e) hgy
        refine ih (k + 1) I2 (setG (setT y (addT e (xT y))) G) _ (okO_s (okF_1 i2 1)) (by omega) (fun c hc => by rw [f1 c (by omega) (by omega) (by omega) (by omega) (by omega) (by omega) (by omega), q1 c (by omega), hF c hc]) ⟨by rw [rd_of h0]; exact a1, szk, fun _ => ⟨by rw [rd_of h0]; exact b1, kyC_cg h0 h1 b2, by rw [rd_of h1, rd_of h1, rd_of h1]; exact b3, by rw [rd_of h0, rd_of h0]; exact b4, by rw [rd_of h0, rd_of h0, rd_of h0]; exact b5, f2, logC_cg (by rw [hi _ (by omega), q1 _ (by omega)]) (by rw [hi _ (by omega), q1 _ (by omega)]) (by rw [hi _ (by omega), q1 _ (by omega)]) b7, ?_⟩⟩ hUy hSy ag.1 ?_ ?_
        · show PkC I2 B (xS y) G
          have r19 : ∀ j, rd I2 (B + 19) j = rd I1 (B + 19) j := fun j => rd_of (hi _ (by omega)) j
          refine ⟨sz, tk + 1, fun z => absurd z (by omega), by omega, c2, by rw [r19, eI1, rd_wt_k _ _ _ _ (by omega), c3], by rw [r19, eI1, rd_wt_s _ _ _ ⟨by omega, by omega⟩]; rfl, fun j e' hj => ?_⟩
          obtain ⟨o', p1, p2, p3⟩ := c5 (j + 1) e' hj
          refine ⟨o', ?_, p2, ?_⟩
          · rw [rd_of (hi _ (by omega)), rd_of (q1 _ (by omega)), show tk + 1 + j = tk + (j + 1) by omega]
            exact p1
          · rw [show rd I2 (B + 21) = rd J (B + 21) from funext (fun j => by rw [rd_of (hi _ (by omega)), rd_of (q1 _ (by omega))])]
            exact p3
        · show (lsT (addT e (xT y))).length + G.length ≤ 647
          simp at hly
          have := ag.2.2
          omega
        · rw [← hld]
          show _ = (match xG y with | [] => setS y 3 | e :: G => ld d (setG (setT y (addT e (xT y))) G))
          rw [hG]
  exact callV_of rfl (b_loadSome hB (loop 16 0 I x none okO_n (by omega) (fun _ _ => rfl) hx hU hS hg hl rfl))
