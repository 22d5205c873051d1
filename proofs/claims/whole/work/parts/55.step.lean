/-! AN INDEX IS BUILT, class -/
abbrev Rw : Type := (Nat → Im) × (Nat → Im) × (Nat → Int)
def RowC (I : Mm) (R : Nat) (w : Rw) : Prop := ∀ p, p < 320 → imC I (R + 2) p = w.1 p ∧ imC I (R + 4) p = w.2.1 p ∧ rd I (R + 5) p = w.2.2 p
theorem rowC_cg {I J : Mm} {R : Nat} {w : Rw} (h2 : J (R + 2) = I (R + 2)) (h4 : J (R + 4) = I (R + 4)) (h5 : J (R + 5) = I (R + 5)) (h : RowC I R w) : RowC J R w := fun p hp => by
  have := h p hp
  exact ⟨(imC_cg h2 p).trans this.1, (imC_cg h4 p).trans this.2.1, (rd_of h5 p).trans this.2.2⟩
def ff (f : Nat → Bool) : Nat → Nat → Int
  | 0, _ => -1
  | d + 1, k => if f k then k else ff f d (k + 1)
theorem ff_no {f : Nat → Bool} : ∀ {d k : Nat}, (∀ j, k ≤ j → j < k + d → f j = false) → ff f d k = -1
  | 0, _, _ => rfl
  | d + 1, k, h => by
    show (if f k then (k : Int) else ff f d (k + 1)) = -1
    rw [h k (Nat.le_refl _) (by omega), if_neg (by decide)]
    exact ff_no (fun j h1 h2 => h j (by omega) (by omega))
theorem ff_in {f : Nat → Bool} : ∀ {d k : Nat}, ff f d k = -1 ∨ ∃ j : Nat, ff f d k = j ∧ k ≤ j ∧ j < k + d ∧ f j = true
  | 0, _ => Or.inl rfl
  | d + 1, k => by
    show (if f k then (k : Int) else ff f d (k + 1)) = -1 ∨ ∃ j : Nat, (if f k then (k : Int) else ff f d (k + 1)) = j ∧ _
    by_cases c : f k = true
    · rw [if_pos c]
      exact Or.inr ⟨k, rfl, Nat.le_refl _, by omega, c⟩
    · rw [if_neg c]
      rcases ff_in (f := f) (d := d) (k := k + 1) with h | ⟨j, h1, h2, h3, h4⟩
      · exact Or.inl h
      · exact Or.inr ⟨j, h1, by omega, by omega, h4⟩
/-- two places clash -/
def cl (k : Ky) (w : Rw) (p q : Nat) : Bool := decide (p ≠ q) && (sk k (w.2.1 p) (w.2.1 q) || (sk k (w.1 p) (w.1 q) || (!decide (w.2.2 p ≠ -1 ∧ w.2.2 p = w.2.2 q) && (sk k (w.2.1 p) (w.1 q) || sk k (w.1 p) (w.2.1 q)))))
def clOf (k : Ky) (w : Rw) (p : Nat) : Int := ff (cl k w p) 320 0
def clAny (k : Ky) (w : Rw) : Int := ff (fun p => decide (clOf k w p ≠ -1)) 320 0
theorem sk_n1 (k : Ky) (b : Im) : sk k none b = false := rfl
theorem sk_n2 (k : Ky) (a : Im) : sk k a none = false := by cases a <;> rfl
theorem b01_0 {b : Bool} : b01 b = 0 ↔ b = false := by cases b <;> decide
theorem c_size {I : Mm} {B : Nat} {T : TS E} (hT : TreeC I B T) : rd I (B + 2) 2 = 648 - ((lsT T).length : Int) := by
  obtain ⟨r, hC, hT2, _⟩ := hT
  have := trC_c2 hC
  rw [this]
  have : (inT T.1 (mkT (nsC I B) T.1 r)).length = (lsT T).length := by
    show _ = (inT T.1 T.2).length
    rw [hT2, inT_map, List.length_map]
  rw [this]
theorem ixC_w {I J : Mm} {B : Nat} {x : Ix} (hF : WFr I J B) (hT : TreeC J B (xT x)) (hU : xU x = 1) (hx : IxC I B x) : IxC J B x := by
  obtain ⟨a1, a2, a3⟩ := hx
  obtain ⟨b1, b2, b3, b4, b5, b6, b7, b8⟩ := a3 (by omega)
  have hi : ∀ c, (c = B ∨ c = B + 1 ∨ B + 14 ≤ c) → J c = I c := fun c hc => hF c (by omega) (by omega) (by omega) (by omega) (by omega)
  have h0 : J B = I B := hi _ (by omega)
  have h1 : J (B + 1) = I (B + 1) := hi _ (by omega)
  refine ⟨by rw [rd_of h0]; exact a1, ?_, fun _ => ⟨by rw [rd_of h0]; exact b1, kyC_cg h0 h1 b2, by rw [rd_of h1, rd_of h1, rd_of h1]; exact b3, by rw [rd_of h0, rd_of h0]; exact b4, by rw [rd_of h0, rd_of h0, rd_of h0]; exact b5, hT, logC_cg (hi _ (by omega)) (hi _ (by omega)) (hi _ (by omega)) b7, pkC_cg (hi _ (by omega)) (hi _ (by omega)) (hi _ (by omega)) b8⟩⟩
  obtain ⟨r, hC, _⟩ := hT
  exact hC.1
theorem ff_m1 {f : Nat → Bool} : ∀ {d k : Nat}, ff f d k = -1 → ∀ j, k ≤ j → j < k + d → f j = false
  | 0, k, _, j, h1, h2 => by omega
  | d + 1, k, h, j, h1, h2 => by
    have h : (if f k then (k : Int) else ff f d (k + 1)) = -1 := h
    by_cases c : f k = true
    · rw [if_pos c] at h
      omega
    · rw [if_neg c] at h
      by_cases e : j = k
      · subst e
        cases hf : f j with
        | true => exact absurd hf c
        | false => rfl
      · exact ff_m1 h j (by omega) (by omega)
theorem ff_at {f : Nat → Bool} : ∀ {d k j : Nat}, k ≤ j → j < k + d → f j = true → (∀ i, k ≤ i → i < j → f i = false) → ff f d k = j
  | 0, k, j, h1, h2, _, _ => by omega
  | d + 1, k, j, h1, h2, h3, h4 => by
    show (if f k then (k : Int) else ff f d (k + 1)) = j
    by_cases c : k = j
    · subst c
      rw [if_pos h3]
    · rw [h4 k (Nat.le_refl _) (by omega), if_neg (by decide)]
      exact ff_at (by omega) (by omega) h3 (fun i h5 h6 => h4 i (by omega) h6)
theorem sk_cm (k : Ky) (a b : Im) : sk k a b = sk k b a := by
  cases a with
  | none => exact (sk_n2 k b).symm
  | some x => cases b with
    | none => rfl
    | some y => exact decide_eq_decide.mpr eq_comm
theorem cl_sym (k : Ky) (w : Rw) (p q : Nat) : cl k w p q = cl k w q p := by
  unfold cl
  rw [sk_cm k (w.2.1 p) (w.2.1 q), sk_cm k (w.1 p) (w.1 q), sk_cm k (w.2.1 p) (w.1 q), sk_cm k (w.1 p) (w.2.1 q), Bool.or_comm (sk k (w.1 q) (w.2.1 p)) (sk k (w.2.1 q) (w.1 p))]
  have e1 : decide (p ≠ q) = decide (q ≠ p) := decide_eq_decide.mpr ne_comm
  have e2 : decide (w.2.2 p ≠ -1 ∧ w.2.2 p = w.2.2 q) = decide (w.2.2 q ≠ -1 ∧ w.2.2 q = w.2.2 p) := decide_eq_decide.mpr ⟨fun h => ⟨by rw [← h.2]; exact h.1, h.2.symm⟩, fun h => ⟨by rw [← h.2]; exact h.1, h.2.symm⟩⟩
  rw [e1, e2]
/-- a place without a writer has one image -/
def wOK (w : Rw) : Prop := ∀ p, p < 320 → w.2.2 p = -1 → w.1 p = w.2.1 p
/-- a tree has the entries of all places, and no others -/
def AllE (k : Ky) (w : Rw) (T : TS E) : Prop := (∀ e ∈ lsT T, ∃ p : Nat, p < 320 ∧ e.2.2.2 = p) ∧ ∀ (p : Nat) (x : F4), p < 320 → (w.1 p = some x ∨ w.2.1 p = some x) → kE k x p ∈ lsT T
def keq (e g : E) : Bool := decide (e.1 = g.1 ∧ e.2.1 = g.2.1 ∧ e.2.2.1 = g.2.2.1)
theorem cl_n2 {k : Ky} {w : Rw} {p q : Nat} (h1 : w.1 q = none) (h2 : w.2.1 q = none) : cl k w p q = false := by
  unfold cl
  rw [h1, h2]
  simp only [sk_n2]
  cases decide (p ≠ q) <;> cases decide (w.2.2 p ≠ -1 ∧ w.2.2 p = w.2.2 q) <;> rfl
theorem cl_ne {k : Ky} {w : Rw} {p q : Nat} (h : cl k w p q = true) : p ≠ q := fun z => by
  unfold cl at h
  rw [decide_eq_false (fun c => c z), Bool.false_and] at h
  cases h
/-- two places that clash have entries of one key -/
theorem cl_ent {k : Ky} {w : Rw} {T : TS E} {p q : Nat} (hA : AllE k w T) (hp : p < 320) (hq : q < 320) (h : cl k w p q = true) : ∃ e g, e ∈ lsT T ∧ g ∈ lsT T ∧ e.2.2.2 = p ∧ g.2.2.2 = q ∧ keq e g = true := by
  have key : ∀ a b : Im, (a = w.1 p ∨ a = w.2.1 p) → (b = w.1 q ∨ b = w.2.1 q) → sk k a b = true → ∃ e g, e ∈ lsT T ∧ g ∈ lsT T ∧ e.2.2.2 = p ∧ g.2.2.2 = q ∧ keq e g = true := by
    intro a b ha hb hs
    cases a with
    | none => cases hs
    | some x =>
      cases b with
      | none => cases hs
      | some y =>
        have he : kE k x 0 = kE k y 0 := of_decide_eq_true hs
        refine ⟨kE k x p, kE k y q, hA.2 p x hp (ha.elim (fun c => Or.inl c.symm) (fun c => Or.inr c.symm)), hA.2 q y hq (hb.elim (fun c => Or.inl c.symm) (fun c => Or.inr c.symm)), rfl, rfl, decide_eq_true ⟨?_, ?_, ?_⟩⟩
        · have h0 : kv k x 0 = kv k y 0 := congrArg (fun e : E => e.1) he
          exact h0
        · have h0 : kv k x 1 = kv k y 1 := congrArg (fun e : E => e.2.1) he
          exact h0
        · have h0 : kv k x 2 = kv k y 2 := congrArg (fun e : E => e.2.2.1) he
          exact h0
  unfold cl at h
  simp only [Bool.and_eq_true, Bool.or_eq_true] at h
  rcases h.2 with h | h | ⟨_, h | h⟩
  · exact key _ _ (Or.inr rfl) (Or.inr rfl) h
  · exact key _ _ (Or.inl rfl) (Or.inl rfl) h
  · exact key _ _ (Or.inr rfl) (Or.inl rfl) h
  · exact key _ _ (Or.inl rfl) (Or.inr rfl) h
set_option maxHeartbeats 2000000 in
theorem c_isClash {B R p q : Nat} {I : Mm} {K : Int → Mm → Prop} {fa fb : Nat} {k : Ky} {w : Rw} (hB : isX B) (hR : isW R) (hk : kyOK k) (hC : kyC I B k) (hw : RowC I R w) (hN : wOK w) (hp : p < 320) (hq : q < 320) (hpq : p ≠ q) (h : K (b01 (cl k w p q)) I) : CallZ 32 [.inr (2, B, 0), .inr (6, R, 0), .inl (fa, (p : Int)), .inl (fb, (q : Int))] I K := by
  have gC : isG (R + 1) := by rcases hR with rfl | rfl <;> unfold isG <;> omega
  have gU : isG (R + 3) := by rcases hR with rfl | rfl <;> unfold isG <;> omega
  have cp : imC I (R + 1 + 1) p = w.1 p := (hw p hp).1
  have cq : imC I (R + 1 + 1) q = w.1 q := (hw q hq).1
  have up : imC I (R + 3 + 1) p = w.2.1 p := (hw p hp).2.1
  have uq : imC I (R + 3 + 1) q = w.2.1 q := (hw q hq).2.1
  have wp : rd I (R + 5) p = w.2.2 p := (hw p hp).2.2
  have wq : rd I (R + 5) q = w.2.2 q := (hw q hq).2.2
  unfold cl at h
  rw [decide_eq_true hpq, Bool.true_and] at h
  have cross : K (b01 (sk k (w.2.1 p) (w.1 q) || sk k (w.1 p) (w.2.1 q))) I → CallZ 18 [.inr (2, B, 0), .inr (6, R, 3), .inl (1, (p : Int)), .inr (6, R, 1), .inl (1, (q : Int))] I (fun x3 I3 => (x3 = 0 → CallZ 18 [.inr (2, B, 0), .inr (6, R, 1), .inl (1, (p : Int)), .inr (6, R, 3), .inl (1, (q : Int))] I3 (fun x4 I4 => (x4 = 0 → (rZ K) (some (.inl (2, 0))) I4) ∧ (¬ x4 = 0 → (rZ K) (some (.inl (2, 1))) I4))) ∧ (¬ x3 = 0 → (rZ K) (some (.inl (2, 1))) I3)) := by
    intro hh
    refine callZ_fl (as' := [.inr (2, B, 0), .inr (4, R + 3, 0), .inl (1, (p : Int)), .inr (4, R + 1, 0), .inl (1, (q : Int))]) rfl ?_
    refine c_hok_44 hB gU gC hk hC hp hq ?_
    rw [up, cq]
    cases s1 : sk k (w.2.1 p) (w.1 q) with
    | true =>
      rw [s1] at hh
      exact ⟨fun z => absurd z (by decide), fun _ => hh⟩
    | false =>
      rw [s1, Bool.false_or] at hh
      refine ⟨fun _ => ?_, fun z => absurd rfl z⟩
      refine callZ_fl (as' := [.inr (2, B, 0), .inr (4, R + 1, 0), .inl (1, (p : Int)), .inr (4, R + 3, 0), .inl (1, (q : Int))]) rfl ?_
      refine c_hok_44 hB gC gU hk hC hp hq ?_
      rw [cp, uq]
      cases s2 : sk k (w.1 p) (w.2.1 q) with
      | true => rw [s2] at hh; exact ⟨fun z => absurd z (by decide), fun _ => hh⟩
      | false => rw [s2] at hh; exact ⟨fun _ => hh, fun z => absurd rfl z⟩
  have rest : ¬ (w.2.2 p = -1 ∧ w.2.2 q = -1) → K (b01 (sk k (w.1 p) (w.1 q) || (!decide (w.2.2 p ≠ -1 ∧ w.2.2 p = w.2.2 q) && (sk k (w.2.1 p) (w.1 q) || sk k (w.1 p) (w.2.1 q))))) I → CallZ 18 [.inr (2, B, 0), .inr (6, R, 1), .inl (1, (p : Int)), .inr (6, R, 1), .inl (1, (q : Int))] I (fun x5 I5 => (x5 = 0 → (w.2.2 p = w.2.2 q → (rZ K) (some (.inl (2, 0))) I5) ∧ (¬ w.2.2 p = w.2.2 q → CallZ 18 [.inr (2, B, 0), .inr (6, R, 3), .inl (1, (p : Int)), .inr (6, R, 1), .inl (1, (q : Int))] I5 (fun x3 I3 => (x3 = 0 → CallZ 18 [.inr (2, B, 0), .inr (6, R, 1), .inl (1, (p : Int)), .inr (6, R, 3), .inl (1, (q : Int))] I3 (fun x4 I4 => (x4 = 0 → (rZ K) (some (.inl (2, 0))) I4) ∧ (¬ x4 = 0 → (rZ K) (some (.inl (2, 1))) I4))) ∧ (¬ x3 = 0 → (rZ K) (some (.inl (2, 1))) I3)))) ∧ (¬ x5 = 0 → (rZ K) (some (.inl (2, 1))) I5)) := by
    intro hz hh
    refine callZ_fl (as' := [.inr (2, B, 0), .inr (4, R + 1, 0), .inl (1, (p : Int)), .inr (4, R + 1, 0), .inl (1, (q : Int))]) rfl ?_
    refine c_hok_44 hB gC gC hk hC hp hq ?_
    rw [cp, cq]
    cases s2 : sk k (w.1 p) (w.1 q) with
    | true =>
      rw [s2] at hh
      exact ⟨fun z => absurd z (by decide), fun _ => hh⟩
    | false =>
      rw [s2, Bool.false_or] at hh
      refine ⟨fun _ => ⟨fun z => ?_, fun z => ?_⟩, fun z => absurd rfl z⟩
      · rw [decide_eq_true ⟨fun c => hz ⟨c, z ▸ c⟩, z⟩, Bool.not_true, Bool.false_and] at hh
        exact hh
      · rw [decide_eq_false (fun c => z c.2), Bool.not_false, Bool.true_and] at hh
        exact cross hh
  refine callZ_fl (as' := [.inr (2, B, 0), .inr (6, R, 0), .inl (1, (p : Int)), .inl (1, (q : Int))]) rfl ?_
  refine callZ_of rfl (b_isClash hB hR (inRn (by omega)) (inRn (by omega)) ?_)
  refine callZ_fl (as' := [.inr (2, B, 0), .inr (4, R + 3, 0), .inl (1, (p : Int)), .inr (4, R + 3, 0), .inl (1, (q : Int))]) rfl ?_
  refine c_hok_44 hB gU gU hk hC hp hq ?_
  rw [up, uq]
  cases s1 : sk k (w.2.1 p) (w.2.1 q) with
  | true =>
    rw [s1] at h
    exact ⟨fun z => absurd z (by decide), fun _ => h⟩
  | false =>
    rw [s1, Bool.false_or] at h
    refine ⟨fun _ => ⟨by omega, ?_⟩, fun z => absurd rfl z⟩
    rw [Int.toNat_natCast, Int.toNat_natCast, wp, wq]
    intro v4 e4 _
    refine ⟨by omega, ?_⟩
    intro v5 e5 _
    subst e4
    subst e5
    refine ⟨fun z => ⟨fun z2 => ?_, fun z2 => rest (fun c => z2 c.2) h⟩, fun z => rest (fun c => z c.1) h⟩
    have n1 := hN p hp z
    have n2 := hN q hq z2
    rw [n1, n2, s1] at h
    rw [Bool.false_or, Bool.or_self, Bool.and_false] at h
    exact h
set_option maxHeartbeats 1000000 in
theorem c_lcw {B R p : Nat} {I : Mm} {K : Int → Mm → Prop} {fa : Nat} {k : Ky} {w : Rw} (hB : isX B) (hR : isW R) (hk : kyOK k) (hC : kyC I B k) (hw : RowC I R w) (hN : wOK w) (hp : p < 320) (h : K (clOf k w p) I) : CallZ 31 [.inr (2, B, 0), .inr (6, R, 0), .inl (fa, (p : Int))] I K := by
  have loop : ∀ (d q : Nat), q + d = 320 → K (ff (cl k w p) d q) I → GoA 31 12 [some (.inr (2, B, 0)), some (.inr (6, R, 0)), some (.inl (1, (p : Int))), some (.inl (1, (q : Int)))] [] I (rZ K) := by
    intro d
    induction d with
    | zero =>
      intro q hq hh
      refine b_lcw_12 hB hR (inRn (by omega)) (inRn (by omega)) ⟨fun _ => hh, fun z => absurd (by omega) z⟩
    | succ d ih =>
      intro q hq hh
      have hh : K (if cl k w p q then (q : Int) else ff (cl k w p) d (q + 1)) I := hh
      have nxt : cl k w p q = false → ∀ v3, v3 = wr ((q : Int) + 1) → inR v3 → GoA 31 12 [some (.inr (2, B, 0)), some (.inr (6, R, 0)), some (.inl (1, (p : Int))), some (.inl (1, v3))] [] I (rZ K) := by
        intro hc v3 e3 _
        rw [wrn (q + 1) (by omega) (by omega)] at e3
        subst e3
        rw [hc, if_neg (by decide)] at hh
        exact ih (q + 1) (by omega) hh
      have ask : ¬ (q : Int) = (p : Int) → CallZ 32 [.inr (2, B, 0), .inr (6, R, 0), .inl (1, (p : Int)), .inl (1, (q : Int))] I (fun x1 I1 => (x1 = 0 → ∀ v3, v3 = wr ((q : Int) + 1) → inR v3 → GoA 31 12 [some (.inr (2, B, 0)), some (.inr (6, R, 0)), some (.inl (1, (p : Int))), some (.inl (1, v3))] [] I1 (rZ K)) ∧ (¬ x1 = 0 → (rZ K) (some (.inl (1, (q : Int)))) I1)) := by
        intro z
        refine c_isClash hB hR hk hC hw hN hp (by omega) (fun c => z (by omega)) ⟨fun z2 => nxt (b01_0.mp z2), fun z2 => ?_⟩
        have : cl k w p q = true := by
          cases hc : cl k w p q with
          | true => rfl
          | false => exact absurd (b01_0.mpr hc) z2
        rw [this, if_pos rfl] at hh
        exact hh
      have wq : wr ((q : Int) * 5 + 4) = ((5 * q + 4 : Nat) : Int) := wrn _ (by omega) (by omega)
      refine b_lcw_12 hB hR (inRn (by omega)) (inRn (by omega)) ⟨fun z => absurd z (by omega), fun _ => ⟨fun z => nxt ?_, fun z => ?_⟩⟩
      · unfold cl; rw [decide_eq_false (fun c => c (by omega)), Bool.false_and]
      · rw [wq, Int.toNat_natCast]
        refine ⟨by omega, fun z1 => ⟨by omega, fun z2 => nxt ?_, fun _ => ask z⟩, fun _ => ask z⟩
        exact cl_n2 (by rw [← (hw q (by omega)).1]; exact imC_none z2) (by rw [← (hw q (by omega)).2.1]; exact imC_none z1)
  refine callZ_fl (as' := [.inr (2, B, 0), .inr (6, R, 0), .inl (1, (p : Int))]) rfl ?_
  refine callZ_of rfl (b_lcw hB hR (inRn (by omega)) ?_)
  rw [wrn (5 * p + 4) (by omega) (by omega), Int.toNat_natCast]
  have go := loop 320 0 (by omega) h
  refine ⟨by omega, fun z => ⟨by omega, fun z2 => ?_, fun _ => go⟩, fun _ => go⟩
  have u0 : w.2.1 p = none := by rw [← (hw p hp).2.1]; exact imC_none z
  have c0 : w.1 p = none := by rw [← (hw p hp).1]; exact imC_none z2
  have : clOf k w p = -1 := by
    refine ff_no (fun q _ _ => ?_)
    rw [cl_sym]
    exact cl_n2 c0 u0
  rw [this] at h
  exact h
set_option maxHeartbeats 2000000 in
theorem c_tone {B p q : Nat} {T : TS E} {I : Mm} {K : Int → Mm → Prop} {fa fb : Nat} {e g : E} (hB : isX B) (hT : TreeC I B T) (hg : good T) (hl : (lsT T).length ≤ 648) (he : (lsT T)[p]? = some e) (hq : (lsT T)[q]? = some g)
    (hK : ∀ I' : Mm, WFr I I' B → TreeC I' B T → K (b01 (keq e g)) I') : CallZ 214 [.inr (2, B, 2), .inl (fa, (p : Int)), .inl (fb, (q : Int))] I K := by
  have pl := (List.getElem?_eq_some_iff.mp he).1
  have ql := (List.getElem?_eq_some_iff.mp hq).1
  refine callZ_fl (as' := [.inr (2, B, 2), .inl (1, (p : Int)), .inl (1, (q : Int))]) rfl ?_
  refine callZ_of rfl (b_tone hB (inRn (by omega)) (inRn (by omega)) ?_)
  refine c_walkAll hB hT hg hl (fun I1 fr hT1 hw1 => ?_)
  have kk := hK I1 fr hT1
  obtain ⟨r, hC, hT2, hW⟩ := hT1
  obtain ⟨a, b, c⟩ := hW hw1
  have len2 : (inT T.1 (mkT (nsC I1 B) T.1 r)).length = (lsT T).length := by
    show _ = (inT T.1 T.2).length
    rw [hT2, inT_map, List.length_map]
  have at_ : ∀ (p : Nat) (e : E), (lsT T)[p]? = some e → ∃ z : Nat, rd I1 (B + 12) p = z ∧ z < 648 ∧ ∀ j, j < 3 → rd I1 (B + 4) (4 * z + j) = ew e j := by
    intro p e he
    have pl := (List.getElem?_eq_some_iff.mp he).1
    have hx : (inT T.1 (mkT (nsC I1 B) T.1 r))[p]? = some (rd I1 (B + 12) p) := by
      rw [← b, seg_get _ _ (by rw [len2]; exact pl), Nat.zero_add]
    have qb := ran_mem (hC.2.2.2.2.2.2.mem_iff.mp (List.mem_append_left _ (List.mem_of_getElem? hx)))
    obtain ⟨z, hz⟩ : ∃ z : Nat, rd I1 (B + 12) p = z := ⟨(rd I1 (B + 12) p).toNat, by omega⟩
    have ee : e = ent I1 B (z : Int) := by
      have h1 : lsT T = (inT T.1 (mkT (nsC I1 B) T.1 r)).map (ent I1 B) := by
        show inT T.1 T.2 = _
        rw [hT2, inT_map]
      rw [h1, List.getElem?_map, hx, hz] at he
      exact (Option.some.inj he).symm
    refine ⟨z, hz, by omega, fun j hj => ?_⟩
    rw [ee]
    unfold ent en4
    rw [Int.toNat_natCast]
    rcases j with _ | _ | _ | j
    · rfl
    · rfl
    · rfl
    · omega
  obtain ⟨zp, p1, p2, p3⟩ := at_ p e he
  obtain ⟨zq, q1, q2, q3⟩ := at_ q g hq
  have loop : ∀ (d f : Nat), f + d = 3 → (∀ j, j < f → ew e j = ew g j) → GoA 214 6 [some (.inr (2, B, 2)), some (.inl (1, (p : Int))), some (.inl (1, (q : Int))), some (.inl (1, (f : Int)))] [] I1 (rZ K) := by
    intro d
    induction d with
    | zero =>
      intro f hf ha
      refine b_tone_6 hB (inRn (by omega)) (inRn (by omega)) (inRn (by omega)) ⟨fun _ => ?_, fun z => absurd (by omega) z⟩
      rw [show keq e g = true from decide_eq_true ⟨ha 0 (by omega), ha 1 (by omega), ha 2 (by omega)⟩] at kk
      exact kk
    | succ d ih =>
      intro f hf ha
      have w1 : wr ((zp : Int) * 4 + (f : Int)) = ((4 * zp + f : Nat) : Int) := wrn _ (by omega) (by omega)
      have w2 : wr ((zq : Int) * 4 + (f : Int)) = ((4 * zq + f : Nat) : Int) := wrn _ (by omega) (by omega)
      refine b_tone_6 hB (inRn (by omega)) (inRn (by omega)) (inRn (by omega)) ⟨fun z => absurd z (by omega), fun _ => ?_⟩
      simp only [Int.toNat_natCast, p1, q1, w1, w2, p3 f (by omega), q3 f (by omega)]
      refine ⟨by omega, by omega, by omega, by omega, fun z => ?_, fun z => ?_⟩
      · intro v3 e3 _
        rw [wrn (f + 1) (by omega) (by omega)] at e3
        subst e3
        refine ih (f + 1) (by omega) (fun j hj => ?_)
        by_cases cj : j = f
        · subst cj; exact z
        · exact ha j (by omega)
      · have : keq e g = false := decide_eq_false (fun c => z (by
          have f3 : f = 0 ∨ f = 1 ∨ f = 2 := by omega
          rcases f3 with c3 | c3 | c3 <;> subst c3
          · exact c.1
          · exact c.2.1
          · exact c.2.2))
        rw [this] at kk
        exact kk
  exact loop 3 0 (by omega) (fun j hj => absurd hj (by omega))
/-- what a search through pairs of entries has found -/
def Lq (k : Ky) (w : Rw) (T : TS E) (le : Int) (P : Nat → Nat → Prop) : Prop := (le = -1 ∨ ∃ a b : Nat, le = a ∧ a < 320 ∧ b < 320 ∧ cl k w a b = true) ∧ ∀ (i j : Nat) (e g : E), P i j → i < j → (lsT T)[i]? = some e → (lsT T)[j]? = some g → keq e g = true → cl k w e.2.2.2.toNat g.2.2.2.toNat = true → le ≠ -1 ∧ le ≤ e.2.2.2
theorem lq_le {k : Ky} {w : Rw} {T : TS E} {le : Int} {P : Nat → Nat → Prop} (h : Lq k w T le P) : -1 ≤ le ∧ le < 320 := by
  rcases h.1 with c | ⟨a, b, h1, h2, _⟩ <;> omega
theorem elt_at {T : TS E} (hg : good T) {i j : Nat} {e g : E} (hij : i < j) (hi : (lsT T)[i]? = some e) (hj : (lsT T)[j]? = some g) : elt e g := by
  have := List.pairwise_iff_getElem.mp hg.2 i j (List.getElem?_eq_some_iff.mp hi).1 (List.getElem?_eq_some_iff.mp hj).1 hij
  rw [(List.getElem?_eq_some_iff.mp hi).2, (List.getElem?_eq_some_iff.mp hj).2] at this
  exact this
theorem keq_mid {e f g : E} (h1 : elt e f) (h2 : elt f g) (h : keq e g = true) : keq f g = true := by
  have h := of_decide_eq_true h
  refine decide_eq_true ?_
  unfold elt at h1 h2
  omega
theorem lq_any {k : Ky} {w : Rw} {T : TS E} {le : Int} (hg : good T) (hA : AllE k w T) (h : Lq k w T le (fun _ j => j < (lsT T).length)) : le = clAny k w := by
  have all : ∀ a b : Nat, a < 320 → b < 320 → a < b → cl k w a b = true → le ≠ -1 ∧ le ≤ a := by
    intro a b ha hb hab hc
    obtain ⟨e, g, h1, h2, h3, h4, h5⟩ := cl_ent hA ha hb hc
    obtain ⟨i, hi⟩ := List.mem_iff_getElem?.mp h1
    obtain ⟨j, hj⟩ := List.mem_iff_getElem?.mp h2
    have jl := (List.getElem?_eq_some_iff.mp hj).1
    have hk := of_decide_eq_true h5
    have ij : i < j := by
      rcases Nat.lt_trichotomy i j with c | c | c
      · exact c
      · subst c
        rw [hi] at hj
        cases hj
        omega
      · have := elt_at hg c hj hi
        unfold elt at this
        omega
    have := h.2 i j e g jl ij hi hj h5 (by rw [h3, h4, Int.toNat_natCast, Int.toNat_natCast]; exact hc)
    rw [h3] at this
    exact this
  have both : ∀ a b : Nat, a < 320 → b < 320 → cl k w a b = true → le ≠ -1 ∧ le ≤ a := by
    intro a b ha hb hc
    have ne := cl_ne hc
    rcases Nat.lt_or_ge a b with c | c
    · exact all a b ha hb c hc
    · have := all b a hb ha (by omega) (by rw [cl_sym]; exact hc)
      exact ⟨this.1, by omega⟩
  rcases h.1 with c | ⟨a, b, h1, h2, h3, h4⟩
  · subst c
    symm
    refine ff_no (fun p _ hp => decide_eq_false (fun c => c ?_))
    refine ff_no (fun q _ hq => ?_)
    cases hc : cl k w p q with
    | false => rfl
    | true => exact absurd rfl (both p q (by omega) (by omega) hc).1
  · rw [h1]
    symm
    refine ff_at (by omega) (by omega) (decide_eq_true (fun z => ?_)) (fun i _ hi => decide_eq_false (fun c => c ?_))
    · have := ff_m1 z b (by omega) (by omega)
      rw [this] at h4
      cases h4
    · refine ff_no (fun q _ hq => ?_)
      cases hc : cl k w i q with
      | false => rfl
      | true =>
        have := (both i q (by omega) (by omega) hc).2
        omega
set_option maxHeartbeats 4000000 in
theorem c_lwc {B : Nat} {I : Mm} {K : Int → Mm → Prop} {k : Ky} {w : Rw} {T : TS E} (hB : isX B) (hk : kyOK k) (hC : kyC I B k) (hw : RowC I 1 w) (hN : wOK w) (hT : TreeC I B T) (hg : good T) (hl : (lsT T).length ≤ 648) (hA : AllE k w T) (h : ∀ I' : Mm, WFr I I' B → TreeC I' B T → K (clAny k w) I') : CallZ 30 [.inr (2, B, 0), .inr (0, 0, 1)] I K := by
  have h62 := isX_62 hB
  have plc : ∀ (i : Nat) (e : E), (lsT T)[i]? = some e → ∃ a : Nat, a < 320 ∧ e.2.2.2 = a := fun i e he => hA.1 e (List.mem_of_getElem? he)
  have outer : ∀ (d p : Nat) (J : Mm) (le : Int) (m4 m5 m6 : Option AV), okO m4 → okO m5 → okO m6 → 1 ≤ p → p ≤ 649 → (lsT T).length ≤ p + d → (∀ c, c ≠ B + 2 → c ≠ B + 10 → c ≠ B + 11 → c ≠ B + 12 → c ≠ B + 13 → J c = I c) → TreeC J B T → Lq k w T le (fun _ j => j < p) → GoA 30 4 [some (.inr (2, B, 0)), some (.inr (0, 0, 1)), some (.inl (1, le)), some (.inl (1, (p : Int))), m4, m5, m6] [] J (rZ K) := by
    intro d
    induction d with
    | zero =>
      intro p J le m4 m5 m6 o4 o5 o6 hp hp2 hd hF hTJ hq
      have lb := lq_le hq
      refine b_lwc_4 hB (inRx (by omega) (by omega)) (inRn (by omega)) o4 o5 o6 ⟨fun _ => ?_, fun z => ?_⟩
      · have := h J hF hTJ
        rw [← lq_any hg hA ⟨hq.1, fun i j e g hj => hq.2 i j e g (by
            have hj : j < (lsT T).length := hj
            show j < p
            omega)⟩] at this
        exact this
      · rw [c_size hTJ, wrx (by omega) (by omega)] at z
        exact absurd (by omega) z
    | succ d ih =>
      intro p J le m4 m5 m6 o4 o5 o6 hp hp2 hd hF hTJ hq
      have lb := lq_le hq
      by_cases cp : (lsT T).length ≤ p
      · refine b_lwc_4 hB (inRx (by omega) (by omega)) (inRn (by omega)) o4 o5 o6 ⟨fun _ => ?_, fun z => ?_⟩
        · have := h J hF hTJ
          rw [← lq_any hg hA ⟨hq.1, fun i j e g hj => hq.2 i j e g (by
            have hj : j < (lsT T).length := hj
            show j < p
            omega)⟩] at this
          exact this
        · rw [c_size hTJ, wrx (by omega) (by omega)] at z
          exact absurd (by omega) z
      · obtain ⟨g, hgp⟩ : ∃ g, (lsT T)[p]? = some g := ⟨_, List.getElem?_eq_getElem (by omega)⟩
        obtain ⟨b, hb, hgb⟩ := plc p g hgp
        have inner : ∀ (q1 : Nat) (J : Mm) (le : Int) (m6 : Option AV), okO m6 → q1 ≤ p → WFr I J B → TreeC J B T → Lq k w T le (fun i j => j < p ∨ (j = p ∧ q1 ≤ i)) → GoA 30 31 [some (.inr (2, B, 0)), some (.inr (0, 0, 1)), some (.inl (1, le)), some (.inl (1, (p : Int))), some (.inl (1, (b : Int))), some (.inl (1, (q1 : Int) - 1)), m6] [] J (rZ K) := by
          intro q1
          induction q1 with
          | zero =>
            intro J le m6 o6 _ hF hTJ hq
            have lb := lq_le hq
            refine b_lwc_31 hB (inRx (by omega) (by omega)) (inRn (by omega)) (inRn (by omega)) (inRx (by omega) (by omega)) o6 ⟨fun _ => ?_, fun z => absurd (by omega) z⟩
            intro v3 e3 _
            rw [wrn (p + 1) (by omega) (by omega)] at e3
            subst e3
            exact ih (p + 1) J le _ _ _ (okO_s (okF_1 (inRn (by omega)) 1)) (okO_s (okF_1 (inRx (by omega) (by omega)) 1)) o6 (by omega) (by omega) (by omega) hF hTJ ⟨hq.1, fun i j e g hj => hq.2 i j e g (by
              have hj : j < p + 1 := hj
              show j < p ∨ (j = p ∧ 0 ≤ i)
              omega)⟩
          | succ q1 ihq =>
            intro J le m6 o6 hqp hF hTJ hq
            have lb := lq_le hq
            rw [show ((q1 + 1 : Nat) : Int) - 1 = (q1 : Int) by omega]
            obtain ⟨e, hep⟩ : ∃ e, (lsT T)[q1]? = some e := ⟨_, List.getElem?_eq_getElem (by omega)⟩
            obtain ⟨a, ha, hea⟩ := plc q1 e hep
            have elq := elt_at hg (show q1 < p by omega) hep hgp
            refine b_lwc_31 hB (inRx (by omega) (by omega)) (inRn (by omega)) (inRn (by omega)) (inRn (by omega)) o6 ⟨fun z => absurd z (by omega), fun _ => ?_⟩
            refine c_tone hB hTJ hg hl hep hgp ?_
            intro J1 f1 t1
            have hF1 : WFr I J1 B := fun c c2 c10 c11 c12 c13 => by rw [f1 c c2 c10 c11 c12 c13, hF c c2 c10 c11 c12 c13]
            cases hkq : keq e g with
            | false =>
              refine ⟨fun _ => ?_, fun z => absurd rfl z⟩
              intro v3 e3 _
              rw [wrn (p + 1) (by omega) (by omega)] at e3
              subst e3
              refine ih (p + 1) J1 le _ _ _ (okO_s (okF_1 (inRn (by omega)) 1)) (okO_s (okF_1 (inRn (by omega)) 1)) o6 (by omega) (by omega) (by omega) hF1 t1 ⟨hq.1, fun i j e' g' hj hij hi hj' hke hcl => ?_⟩
              have hj : j < p + 1 := hj
              by_cases cj : j < p ∨ (j = p ∧ q1 + 1 ≤ i)
              · exact hq.2 i j e' g' cj hij hi hj' hke hcl
              · have ej : j = p := by omega
                subst ej
                rw [hgp] at hj'
                cases hj'
                exfalso
                by_cases ci : i = q1
                · subst ci
                  rw [hep] at hi
                  cases hi
                  rw [hkq] at hke
                  cases hke
                · have := keq_mid (elt_at hg (show i < q1 by omega) hi hep) elq hke
                  rw [hkq] at this
                  cases this
            | true =>
              refine ⟨fun z => absurd z (by decide), fun _ => ?_⟩
              have hab : a < b := by
                have hk := of_decide_eq_true hkq
                unfold elt at elq
                omega
              refine callZ_fl (as' := [.inr (2, B, 2), .inl (1, (q1 : Int)), .inl (1, ((3 : Nat) : Int))]) rfl ?_
              refine c_wordAt hB t1 hg hl hep (by omega) ?_
              intro J2 f2 t2 v6 e6 _
              have e6 : v6 = e.2.2.2 := e6
              rw [hea] at e6
              subst e6
              have hF2 : WFr I J2 B := fun c c2 c10 c11 c12 c13 => by rw [f2 c c2 c10 c11 c12 c13, hF1 c c2 c10 c11 c12 c13]
              have nxt : ∀ le' : Int, Lq k w T le' (fun i j => j < p ∨ (j = p ∧ q1 ≤ i)) → ∀ v5, v5 = wr ((q1 : Int) + (-1)) → inR v5 → GoA 30 31 [some (.inr (2, B, 0)), some (.inr (0, 0, 1)), some (.inl (1, le')), some (.inl (1, (p : Int))), some (.inl (1, (b : Int))), some (.inl (1, v5)), some (.inl (1, (a : Int)))] [] J2 (rZ K) := by
                intro le' hq' v5 e5 _
                rw [wrx (by omega) (by omega)] at e5
                have e5 : v5 = (q1 : Int) - 1 := e5
                subst e5
                exact ihq J2 le' _ (okO_s (okF_1 (inRn (by omega)) 1)) (by omega) hF2 t2 hq'
              have keep : (cl k w a b = true → le ≠ -1 ∧ le ≤ a) → Lq k w T le (fun i j => j < p ∨ (j = p ∧ q1 ≤ i)) := by
                intro hc
                refine ⟨hq.1, fun i j e' g' hj hij hi hj' hke hcl => ?_⟩
                have hj : j < p ∨ (j = p ∧ q1 ≤ i) := hj
                by_cases cj : j < p ∨ (j = p ∧ q1 + 1 ≤ i)
                · exact hq.2 i j e' g' cj hij hi hj' hke hcl
                · have ej : j = p ∧ i = q1 := by omega
                  obtain ⟨rfl, rfl⟩ := ej
                  rw [hgp] at hj'
                  cases hj'
                  rw [hep] at hi
                  cases hi
                  rw [hea]
                  rw [hea, hgb, Int.toNat_natCast, Int.toNat_natCast] at hcl
                  exact hc hcl
              have less : cl k w a b = true → (le = -1 ∨ (a : Int) < le) → Lq k w T (a : Int) (fun i j => j < p ∨ (j = p ∧ q1 ≤ i)) := by
                intro hc hlt
                refine ⟨Or.inr ⟨a, b, rfl, ha, hb, hc⟩, fun i j e' g' hj hij hi hj' hke hcl => ⟨by omega, ?_⟩⟩
                have hj : j < p ∨ (j = p ∧ q1 ≤ i) := hj
                by_cases cj : j < p ∨ (j = p ∧ q1 + 1 ≤ i)
                · have := hq.2 i j e' g' cj hij hi hj' hke hcl
                  omega
                · have ej : j = p ∧ i = q1 := by omega
                  obtain ⟨rfl, rfl⟩ := ej
                  rw [hep] at hi
                  cases hi
                  omega
              have row2 : RowC J2 1 w := rowC_cg (hF2 _ (by omega) (by omega) (by omega) (by omega) (by omega)) (hF2 _ (by omega) (by omega) (by omega) (by omega) (by omega)) (hF2 _ (by omega) (by omega) (by omega) (by omega) (by omega)) hw
              have ky2 : kyC J2 B k := kyC_cg (hF2 _ (by omega) (by omega) (by omega) (by omega) (by omega)) (hF2 _ (by omega) (by omega) (by omega) (by omega) (by omega)) hC
              have ask : (le = -1 ∨ (a : Int) < le) → CallZ 32 [.inr (2, B, 0), .inr (0, 0, 1), .inl (1, (a : Int)), .inl (1, (b : Int))] J2 (fun x3 I3 => (x3 = 0 → ∀ v5, v5 = wr ((q1 : Int) + (-1)) → inR v5 → GoA 30 31 [some (.inr (2, B, 0)), some (.inr (0, 0, 1)), some (.inl (1, le)), some (.inl (1, (p : Int))), some (.inl (1, (b : Int))), some (.inl (1, v5)), some (.inl (1, (a : Int)))] [] I3 (rZ K)) ∧ (¬ x3 = 0 → ∀ v2, v2 = (a : Int) → inR v2 → ∀ v5, v5 = wr ((q1 : Int) + (-1)) → inR v5 → GoA 30 31 [some (.inr (2, B, 0)), some (.inr (0, 0, 1)), some (.inl (1, v2)), some (.inl (1, (p : Int))), some (.inl (1, (b : Int))), some (.inl (1, v5)), some (.inl (1, (a : Int)))] [] I3 (rZ K))) := by
                intro hlt
                refine callZ_fl (as' := [.inr (2, B, 0), .inr (6, 1, 0), .inl (1, (a : Int)), .inl (1, (b : Int))]) rfl ?_
                refine c_isClash hB (Or.inl rfl) hk ky2 row2 hN ha hb (by omega) ?_
                cases hc : cl k w a b with
                | false => exact ⟨fun _ => nxt le (keep (fun z => by rw [hc] at z; cases z)), fun z => absurd rfl z⟩
                | true =>
                  refine ⟨fun z => absurd z (by decide), fun _ v2 e2 _ => ?_⟩
                  subst e2
                  exact nxt (a : Int) (less hc hlt)
              refine ⟨fun z => ask (Or.inl z), fun z => ⟨fun z2 => nxt le (keep (fun _ => ⟨z, z2⟩)), fun z2 => ask (Or.inr (by omega))⟩⟩
        refine b_lwc_4 hB (inRx (by omega) (by omega)) (inRn (by omega)) o4 o5 o6 ⟨fun z => ?_, fun _ => ?_⟩
        · rw [c_size hTJ, wrx (by omega) (by omega)] at z
          exact absurd z (by omega)
        · refine callZ_fl (as' := [.inr (2, B, 2), .inl (1, (p : Int)), .inl (1, ((3 : Nat) : Int))]) rfl ?_
          refine c_wordAt hB hTJ hg hl hgp (by omega) ?_
          intro J1 f1 t1 v4 e4 _ v5 e5 _
          have e4 : v4 = g.2.2.2 := e4
          rw [hgb] at e4
          rw [wrx (by omega) (by omega)] at e5
          subst e4; subst e5
          exact inner p J1 le m6 o6 (Nat.le_refl _) (fun c c2 c10 c11 c12 c13 => by rw [f1 c c2 c10 c11 c12 c13, hF c c2 c10 c11 c12 c13]) t1 ⟨hq.1, fun i j e g hj hij => hq.2 i j e g (by
            have hj : j < p ∨ (j = p ∧ p ≤ i) := hj
            show j < p
            omega) hij⟩
  exact callZ_of rfl (b_lwc hB (outer 648 1 I (-1) none none none okO_n okO_n okO_n (by omega) (by omega) (by omega) (fun _ _ _ _ _ _ => rfl) hT ⟨Or.inl rfl, fun i j e g hj hij => by
    have hj : j < 1 := hj
    omega⟩))
def xFin (w : Rw) (x : Ix) : Ix := if xQ x = 0 then setS x 4 else if clAny (xK x) w = -1 then setS x 4 else xFail x (1, clAny (xK x) w, clOf (xK x) w (clAny (xK x) w).toNat)
/-- cells of an index's own row -/
theorem ixC_B {I J : Mm} {B : Nat} {x y : Ix} (hx : IxC I B x) (hU : xU x = 1) (h : ∀ c, B + 1 ≤ c → c ≤ B + 23 → J c = I c) (h0 : rd J B 0 = rd I B 0) (h1 : rd J B 1 = rd I B 1) (h2 : rd J B 2 = rd I B 2) (h4 : rd J B 4 = xS y ∧ rd J B 5 = xP y) (h6 : rd J B 6 = (xW y).1 ∧ rd J B 7 = (xW y).2.1 ∧ rd J B 8 = (xW y).2.2) (e1 : y.1 = x.1) (e2 : y.2.1 = x.2.1) (e3 : y.2.2.2.2 = x.2.2.2.2) (e4 : xS y = 1 → xS x = 1) : IxC J B y := by
  obtain ⟨a1, a2, a3⟩ := hx
  obtain ⟨b1, b2, b3, b4, b5, b6, b7, b8⟩ := a3 (by omega)
  have q1 : J (B + 1) = I (B + 1) := h _ (by omega) (by omega)
  refine ⟨by rw [h0, a1]; unfold xU; rw [e1], szOK_cg (h _ (by omega) (by omega)) a2, fun _ => ⟨by rw [h1, b1]; unfold xQ; rw [e1], ⟨by rw [h2, b2.1]; unfold xK; rw [e2], fun j hj => by rw [rd_of q1]; unfold xK; unfold xK at hj; rw [e2] at hj ⊢; exact b2.2 j hj⟩, by rw [rd_of q1, rd_of q1, rd_of q1]; unfold xF; rw [e2]; exact b3, h4, h6, ?_, ?_, ?_⟩⟩
  · unfold xT; rw [e3]; exact treeC_fr (fun c c1 c2 => h c (by omega) (by omega)) b6
  · unfold xL; rw [e3]; exact logC_cg (h _ (by omega) (by omega)) (h _ (by omega) (by omega)) (h _ (by omega) (by omega)) b7
  · have e5 : xG y = xG x := by unfold xG; rw [e3]
    rw [e5]
    obtain ⟨sz, tk, c0, c1, c2, c3, c4, c5⟩ := pkC_cg (h _ (by omega) (by omega)) (h _ (by omega) (by omega)) (h _ (by omega) (by omega)) b8
    exact ⟨sz, tk, fun z => c0 (e4 z), c1, c2, c3, c4, c5⟩
theorem xQ01 : True := trivial
set_option maxHeartbeats 2000000 in
theorem c_finish {B : Nat} {I : Mm} {K : Mm → Prop} {x : Ix} {w : Rw} (hB : isX B) (hU : xU x = 1) (hx : IxC I B x) (hk : kyOK (xK x)) (hw : RowC I 1 w) (hS : xS x = 3) (hN : wOK w) (hg : good (xT x)) (hl : (lsT (xT x)).length ≤ 648) (hA : AllE (xK x) w (xT x))
    (hK : ∀ I' : Mm, XFr I I' B → IxC I' B (xFin w x) → K I') : CallV 29 [.inr (2, B, 0), .inr (0, 0, 1)] I K := by
  have hxI := hx
  have ready : xFin w x = setS x 4 → ∀ J, WFr I J B → IxC J B x → ∀ I1, I1 = wt J B 4 4 → K I1 := by
    intro hf J hF hx0 I1 e1
    obtain ⟨a1, a2, a3⟩ := hx0
    obtain ⟨b1, b2, b3, b4, b5, b6, b7, b8⟩ := a3 (by omega)
    refine hK I1 (fun c hc => by rw [e1, wt_a _ _ _ _ (by omega), hF c (by omega) (by omega) (by omega) (by omega) (by omega)]) ?_
    rw [hf]
    refine ixC_B (y := setS x 4) ⟨a1, a2, a3⟩ hU (fun c c1 c2 => by rw [e1, wt_a _ _ _ _ (by omega)]) (by rw [e1, rd_wt_k _ _ _ _ (by omega)]) (by rw [e1, rd_wt_k _ _ _ _ (by omega)]) (by rw [e1, rd_wt_k _ _ _ _ (by omega)]) ⟨by rw [e1, rd_wt_s _ _ _ ⟨by omega, by omega⟩]; rfl, by rw [e1, rd_wt_k _ _ _ _ (by omega)]; exact b4.2⟩ ⟨by rw [e1, rd_wt_k _ _ _ _ (by omega)]; exact b5.1, by rw [e1, rd_wt_k _ _ _ _ (by omega)]; exact b5.2.1, by rw [e1, rd_wt_k _ _ _ _ (by omega)]; exact b5.2.2⟩ rfl rfl rfl (fun z => absurd z (by show ¬ (4 : Int) = 1; decide))
  obtain ⟨a1, a2, a3⟩ := hx
  obtain ⟨b1, b2, b3, b4, b5, b6, b7, b8⟩ := a3 (by omega)
  have hb := isX_62 hB
  refine callV_of rfl (b_finish hB ?_)
  rw [b1]
  refine ⟨fun z => ready (if_pos z) I (fun _ _ _ _ _ _ => rfl) hxI, fun z => ?_⟩
  refine c_lwc hB hk b2 hw hN b6 hg hl hA ?_
  intro J hF hTJ
  have hx0 : IxC J B x := ixC_w hF hTJ hU hxI
  have hwJ : RowC J 1 w := rowC_cg (hF _ (by omega) (by omega) (by omega) (by omega) (by omega)) (hF _ (by omega) (by omega) (by omega) (by omega) (by omega)) (hF _ (by omega) (by omega) (by omega) (by omega) (by omega)) hw
  obtain ⟨a1, a2, a3⟩ := id hx0
  obtain ⟨b1, b2, b3, b4, b5, b6, b7, b8⟩ := a3 (by omega)
  intro v2 e2 i2
  refine ⟨fun z2 => ready ?_ J hF hx0, fun z2 => ?_⟩
  · rw [e2] at z2
    exact (if_neg z).trans (if_pos z2)
  · rw [e2] at z2
    have xf : xFin w x = xFail x (1, clAny (xK x) w, clOf (xK x) w (clAny (xK x) w).toNat) := (if_neg z).trans (if_neg z2)
    rw [xf] at hK
    obtain ⟨p, hp, hp2⟩ : ∃ p : Nat, clAny (xK x) w = p ∧ p < 320 := by
      rcases ff_in (f := fun p => decide (clOf (xK x) w p ≠ -1)) (d := 320) (k := 0) with h | ⟨j, h1, h2, h3, h4⟩
      · exact absurd h z2
      · exact ⟨j, h1, by omega⟩
    rw [hp] at e2 hK
    subst e2
    intro I3 e3
    have hx3 : IxC I3 B (x.1, x.2.1, x.2.2.1, ((xW x).1, (p : Int), (xW x).2.2), x.2.2.2.2) := by
      refine ixC_B hx0 hU (fun c c1 c2 => by rw [e3, wt_a _ _ _ _ (by omega)]) (by rw [e3, rd_wt_k _ _ _ _ (by omega)]) (by rw [e3, rd_wt_k _ _ _ _ (by omega)]) (by rw [e3, rd_wt_k _ _ _ _ (by omega)]) ⟨by rw [e3, rd_wt_k _ _ _ _ (by omega)]; exact b4.1, by rw [e3, rd_wt_k _ _ _ _ (by omega)]; exact b4.2⟩ ⟨by rw [e3, rd_wt_k _ _ _ _ (by omega)]; exact b5.1, by rw [e3, rd_wt_s _ _ _ (inRn (by omega))]; rfl, by rw [e3, rd_wt_k _ _ _ _ (by omega)]; exact b5.2.2⟩ rfl rfl rfl (fun z => z)
    have hw3 : RowC I3 1 w := rowC_cg (by rw [e3, wt_a _ _ _ _ (by omega)]) (by rw [e3, wt_a _ _ _ _ (by omega)]) (by rw [e3, wt_a _ _ _ _ (by omega)]) hwJ
    have hC3 : kyC I3 B (xK x) := ⟨by rw [e3, rd_wt_k _ _ _ _ (by omega)]; exact b2.1, fun j hj => by rw [e3, rd_wt_a _ _ _ _ (by omega)]; exact b2.2 j hj⟩
    refine callZ_fl (as' := [.inr (2, B, 0), .inr (6, 1, 0), .inl (1, (p : Int))]) rfl ?_
    refine c_lcw hB (Or.inl rfl) hk hC3 hw3 hN hp2 ?_
    intro I5 e5
    have c2r : inR (clOf (xK x) w p) := by
      rcases ff_in (f := cl (xK x) w p) (d := 320) (k := 0) with h | ⟨j, h1, h2, h3, h4⟩
      · unfold clOf; rw [h]; exact ⟨by omega, by omega⟩
      · unfold clOf; rw [h1]; exact inRn (by omega)
    have hx5 : IxC I5 B (x.1, x.2.1, x.2.2.1, ((xW x).1, (p : Int), clOf (xK x) w p), x.2.2.2.2) := by
      obtain ⟨a1', a2', a3'⟩ := hx3
      have a3'' := a3' (by show ¬ xU x = 0; omega)
      obtain ⟨d1, d2, d3, d4, d5, d6, d7, d8⟩ := a3''
      refine ixC_B (x := (x.1, x.2.1, x.2.2.1, ((xW x).1, (p : Int), (xW x).2.2), x.2.2.2.2)) ⟨a1', a2', a3'⟩ hU (fun c c1 c2 => by rw [e5, wt_a _ _ _ _ (by omega)]) (by rw [e5, rd_wt_k _ _ _ _ (by omega)]) (by rw [e5, rd_wt_k _ _ _ _ (by omega)]) (by rw [e5, rd_wt_k _ _ _ _ (by omega)]) ⟨by rw [e5, rd_wt_k _ _ _ _ (by omega)]; exact d4.1, by rw [e5, rd_wt_k _ _ _ _ (by omega)]; exact d4.2⟩ ⟨by rw [e5, rd_wt_k _ _ _ _ (by omega)]; exact d5.1, by rw [e5, rd_wt_k _ _ _ _ (by omega)]; exact d5.2.1, by rw [e5, rd_wt_s _ _ _ c2r]; rfl⟩ rfl rfl rfl (fun z => z)
    refine c_failC (x := (x.1, x.2.1, x.2.2.1, ((xW x).1, (p : Int), clOf (xK x) w p), x.2.2.2.2)) hB ⟨by omega, by omega⟩ hU hx5 ?_
    intro I6 f1 f2
    refine hK I6 (fun c hc => by rw [f1 c hc, e5, wt_a _ _ _ _ (by omega), e3, wt_a _ _ _ _ (by omega), hF c (by omega) (by omega) (by omega) (by omega) (by omega)]) ?_
    rw [Int.toNat_natCast]
    exact f2
def xCatch (x : Ix) : Ix := match xL x with
  | (c, e) :: L => setL (setT x (stepT c e (xT x))) L
  | [] => x
set_option maxHeartbeats 2000000 in
theorem c_catchUp {B : Nat} {I : Mm} {K : Mm → Prop} {x : Ix} {c0 : Int} {e0 : E} {L : List (Int × E)} (hB : isX B) (hU : xU x = 1) (hx : IxC I B x) (hL : xL x = (c0, e0) :: L) (hg : good (xT x)) (hl : (lsT (xT x)).length ≤ 647)
    (hK : ∀ I' : Mm, XFr I I' B → IxC I' B (xCatch x) → K I') : CallV 28 [.inr (2, B, 0)] I K := by
  obtain ⟨a1, a2, a3⟩ := hx
  obtain ⟨b1, b2, b3, b4, b5, b6, b7, b8⟩ := a3 (by omega)
  obtain ⟨f, l1, l2, l3, l4, l5⟩ := b7
  obtain ⟨m1, m2, m3⟩ := l5 0 c0 e0 (by rw [hL]; rfl)
  have m0 : (f + 0) % 300 = f := by omega
  rw [m0] at m1 m2
  have len : (xL x).length = L.length + 1 := by rw [hL]; rfl
  have xc : xCatch x = setL (setT x (stepT c0 e0 (xT x))) L := by unfold xCatch; rw [hL]
  rw [xc] at hK
  have fin : ∀ I1 : Mm, (∀ c, c ≠ B + 2 → c ≠ B + 4 → c ≠ B + 5 → c ≠ B + 6 → c ≠ B + 7 → c ≠ B + 8 → c ≠ B + 9 → c ≠ B + 10 → c ≠ B + 11 → I1 c = I c) → TreeC I1 B (stepT c0 e0 (xT x)) → (rd I1 (B + 15) 2 ≤ 0 → rV K none I1) ∧ (¬ rd I1 (B + 15) 2 ≤ 0 → (0 ≤ (wr ((rd I1 (B + 15) 3) + 1)) ∧ 0 < (300 : Int)) ∧ (∀ I2, I2 = wt I1 (B + 15) 3 ((wr ((rd I1 (B + 15) 3) + 1)) % 300) → ∀ I3, I3 = wt I2 (B + 15) 2 ((rd I2 (B + 15) 2) - 1) → rV K none I3)) := by
    intro I1 f1 f2
    have hi : ∀ c, (c = B ∨ c = B + 1 ∨ B + 12 ≤ c) → I1 c = I c := fun c hc => f1 c (by omega) (by omega) (by omega) (by omega) (by omega) (by omega) (by omega) (by omega) (by omega)
    rw [rd_of (hi (B + 15) (by omega)), rd_of (hi (B + 15) (by omega)), l2, l3]
    refine ⟨fun z => absurd z (by omega), fun _ => ?_⟩
    have wv : wr ((f : Int) + 1) = ((f + 1 : Nat) : Int) := wrn _ (by omega) (by omega)
    rw [wv]
    refine ⟨by omega, ?_⟩
    intro I2 e2
    have em : ((f + 1 : Nat) : Int) % 300 = (((f + 1) % 300 : Nat) : Int) := rfl
    rw [em] at e2
    have r2 : rd I2 (B + 15) 2 = (xL x).length := by rw [e2, rd_wt_k _ _ _ _ (by omega), rd_of (hi (B + 15) (by omega)), l3]
    rw [r2]
    intro I3 e3
    have q : ∀ c, c ≠ B + 15 → I3 c = I1 c := fun c c1 => by rw [e3, wt_a _ _ _ _ c1, e2, wt_a _ _ _ _ c1]
    have h0 : I3 B = I B := by rw [q _ (by omega), hi _ (by omega)]
    have h1 : I3 (B + 1) = I (B + 1) := by rw [q _ (by omega), hi _ (by omega)]
    have sz : szOK I3 B := by
      obtain ⟨r, hC, _⟩ := f2
      exact szOK_cg (q _ (by omega)) hC.1
    have e17 : rd I3 (B + 17) = rd I (B + 17) := funext (fun j => by rw [rd_of (q _ (by omega)), rd_of (hi _ (by omega))])
    refine hK I3 (fun c hc => by rw [q c (by omega), f1 c (by omega) (by omega) (by omega) (by omega) (by omega) (by omega) (by omega) (by omega) (by omega)]) ⟨by rw [rd_of h0]; exact a1, sz, fun _ => ⟨by rw [rd_of h0]; exact b1, kyC_cg h0 h1 b2, by rw [rd_of h1, rd_of h1, rd_of h1]; exact b3, by rw [rd_of h0, rd_of h0]; exact b4, by rw [rd_of h0, rd_of h0, rd_of h0]; exact b5, treeC_fr (fun c c1 c2 => q c (by omega)) f2, ?_, pkC_cg (by rw [q _ (by omega), hi _ (by omega)]) (by rw [q _ (by omega), hi _ (by omega)]) (by rw [q _ (by omega), hi _ (by omega)]) b8⟩⟩
    show LogC I3 B L
    have m300 : (f + 1) % 300 < 300 := Nat.mod_lt _ (by omega)
    refine ⟨(f + 1) % 300, m300, by rw [e3, rd_wt_k _ _ _ _ (by omega), e2, rd_wt_s _ _ _ (inRn (by omega))], by rw [e3, rd_wt_s _ _ _ ⟨by omega, by omega⟩]; omega, by omega, fun j c e hj => ?_⟩
    have := l5 (j + 1) c e (by rw [hL]; exact hj)
    rw [show (f + (j + 1)) % 300 = ((f + 1) % 300 + j) % 300 by omega] at this
    rw [rd_of (q _ (by omega)), rd_of (hi _ (by omega)), e17]
    exact this
  refine callV_of rfl (b_catchUp hB ?_)
  rw [l2, Int.toNat_natCast, m1]
  refine ⟨by omega, m3, fun z => ?_, fun z => ?_⟩
  · refine c_cut_16 hB (by omega) b6 hg (by omega) ?_
    intro I1 f1 f2
    rw [m2] at f2
    refine fin I1 (fun c k2 k4 k5 k6 k7 k8 k9 k10 k11 => f1 c k2 k5 k6 k7 k8 k9 k10 k11) ?_
    unfold stepT; rw [if_pos z]; exact f2
  · refine c_add_16 hB (by omega) b6 hg hl ?_
    intro I1 f1 f2
    rw [m2] at f2
    refine fin I1 (fun c k2 k4 k5 k6 k7 k8 k9 k10 k11 => f1 c k2 k4 k6 k7 k8 k10 k11) ?_
    unfold stepT; rw [if_neg z]; exact f2
/-- what a step of loading does -/
def ld : Nat → Ix → Ix
  | 0, x => x
  | n + 1, x => match xG x with
    | [] => setS x 3
    | e :: G => ld n (setG (setT x (addT e (xT x))) G)
set_option maxHeartbeats 2000000 in
theorem c_loadSome {B : Nat} {I : Mm} {K : Mm → Prop} {x : Ix} (hB : isX B) (hU : xU x = 1) (hS : xS x = 2) (hx : IxC I B x) (hg : good (xT x)) (hl : (lsT (xT x)).length + (xG x).length ≤ 647)
    (hK : ∀ I' : Mm, XFr I I' B → IxC I' B (ld 16 x) → K I') : CallV 27 [.inr (2, B, 0)] I K := by
  have loop : ∀ (d k : Nat) (J : Mm) (y : Ix) (m2 : Option AV), okO m2 → k + d = 16 → XFr I J B → IxC J B y → xU y = 1 → xS y = 2 → good (xT y) → (lsT (xT y)).length + (xG y).length ≤ 647 → ld d y = ld 16 x → GoA 27 2 [some (.inr (2, B, 0)), some (.inl (1, (k : Int))), m2] [] J (rV K) := by
    intro d
    induction d with
    | zero =>
      intro k J y m2 o2 hk hF hy hUy hSy hgy hly hld
      refine b_loadSome_2 hB (inRn (by omega)) o2 ⟨fun _ => ?_, fun z => absurd (by omega) z⟩
      refine hK J hF ?_
      rw [← hld]
      exact hy
    | succ d ih =>
      intro k J y m2 o2 hk hF hy hUy hSy hgy hly hld
      have hy0 := hy
      obtain ⟨a1, a2, a3⟩ := hy
      obtain ⟨b1, b2, b3, b4, b5, b6, b7, b8⟩ := a3 (by omega)
      obtain ⟨sz, tk, c0, c1, c2, c3, c4, c5⟩ := b8
      refine b_loadSome_2 hB (inRn (by omega)) o2 ⟨fun z => absurd z (by omega), fun _ => ?_⟩
      rw [c3, c4, Int.toNat_natCast]
      cases hG : xG y with
      | nil =>
        rw [hG] at c1
        have c1' : tk = sz := c1
        refine ⟨fun z => absurd z (by omega), fun _ => ?_⟩
        intro I4 e4
        refine hK I4 (fun c hc => by rw [e4, wt_a _ _ _ _ (by omega), hF c hc]) ?_
        have : ld (d + 1) y = setS y 3 := by show (match xG y with | [] => setS y 3 | e :: G => _) = _; rw [hG]
        rw [← hld, this]
        refine ixC_B (y := setS y 3) hy0 hUy (fun c c1 c2 => by rw [e4, wt_a _ _ _ _ (by omega)]) (by rw [e4, rd_wt_k _ _ _ _ (by omega)]) (by rw [e4, rd_wt_k _ _ _ _ (by omega)]) (by rw [e4, rd_wt_k _ _ _ _ (by omega)]) ⟨by rw [e4, rd_wt_s _ _ _ ⟨by omega, by omega⟩]; rfl, by rw [e4, rd_wt_k _ _ _ _ (by omega)]; exact b4.2⟩ ⟨by rw [e4, rd_wt_k _ _ _ _ (by omega)]; exact b5.1, by rw [e4, rd_wt_k _ _ _ _ (by omega)]; exact b5.2.1, by rw [e4, rd_wt_k _ _ _ _ (by omega)]; exact b5.2.2⟩ rfl rfl rfl (fun z => absurd z (by show ¬ (3 : Int) = 1; decide))
      | cons e G =>
        rw [hG] at c1 c5 hly
        have c1' : tk + (G.length + 1) = sz := c1
        obtain ⟨o, o1, o2', o3⟩ := c5 0 e rfl
        have o1 : rd J (B + 22) tk = o := o1
        refine ⟨fun _ => ⟨by omega, ?_⟩, fun z => absurd (by omega) z⟩
        intro v1 e1 i1
        rw [o1] at e1
        intro I1 eI1 v2 e2 i2
        subst e1
        subst e2
        refine ⟨fun z => absurd z (by omega), fun _ => ?_⟩
        have q1 : ∀ c, c ≠ B + 19 → I1 c = J c := fun c c1 => by rw [eI1, wt_a _ _ _ _ c1]
        refine c_add_20 hB (by omega) (treeC_fr (fun c c1 c2 => q1 c (by omega)) b6) hgy (by simp at hly; omega) ?_
        intro I2 f1 f2 v3 e3 i3
        rw [wrn (k + 1) (by omega) (by omega)] at e3
        subst e3
        have ee : en4 (rd I1 (B + 21)) o = e := by
          rw [show rd I1 (B + 21) = rd J (B + 21) from funext (fun j => rd_of (q1 _ (by omega)) j)]
          exact o3
        rw [ee] at f2
        have hi : ∀ c, (c = B ∨ c = B + 1 ∨ B + 12 ≤ c) → I2 c = I1 c := fun c hc => f1 c (by omega) (by omega) (by omega) (by omega) (by omega) (by omega) (by omega)
        have h0 : I2 B = J B := by rw [hi _ (by omega), q1 _ (by omega)]
        have h1 : I2 (B + 1) = J (B + 1) := by rw [hi _ (by omega), q1 _ (by omega)]
        have szk : szOK I2 B := by
          obtain ⟨r, hC, _⟩ := f2
          exact hC.1
        have ag := add_good (e := e) hgy
        refine ih (k + 1) I2 (setG (setT y (addT e (xT y))) G) _ (okO_s (okF_1 i2 1)) (by omega) (fun c hc => by rw [f1 c (by omega) (by omega) (by omega) (by omega) (by omega) (by omega) (by omega), q1 c (by omega), hF c hc]) ⟨by rw [rd_of h0]; exact a1, szk, fun _ => ⟨by rw [rd_of h0]; exact b1, kyC_cg h0 h1 b2, by rw [rd_of h1, rd_of h1, rd_of h1]; exact b3, by rw [rd_of h0, rd_of h0]; exact b4, by rw [rd_of h0, rd_of h0, rd_of h0]; exact b5, f2, logC_cg (by rw [hi _ (by omega), q1 _ (by omega)]) (by rw [hi _ (by omega), q1 _ (by omega)]) (by rw [hi _ (by omega), q1 _ (by omega)]) b7, ?_⟩⟩ hUy hSy ag.1 ?_ ?_
        · show PkC I2 B (xS y) G
          have r19 : ∀ j, rd I2 (B + 19) j = rd I1 (B + 19) j := fun j => rd_of (hi _ (by omega)) j
          refine ⟨sz, tk + 1, fun z => absurd z (by omega), by omega, c2, by rw [r19, eI1, rd_wt_k _ _ _ _ (by omega), c3], by rw [r19, eI1, rd_wt_s _ _ _ ⟨by omega, by omega⟩]; rfl, fun j e' hj => ?_⟩
          obtain ⟨o', p1, p2, p3⟩ := c5 (j + 1) e' hj
          refine ⟨o', ?_, p2, ?_⟩
          · rw [rd_of (hi _ (by omega)), rd_of (q1 _ (by omega)), show tk + 1 + j = tk + (j + 1) by omega]
            exact p1
          · rw [show rd I2 (B + 21) = rd J (B + 21) from funext (fun j => by rw [rd_of (hi _ (by omega)), rd_of (q1 _ (by omega))])]
            exact p3
        · show (lsT (addT e (xT y))).length + G.length ≤ 647
          simp at hly
          have := ag.2.2
          omega
        · rw [← hld]
          show _ = (match xG y with | [] => setS y 3 | e :: G => ld d (setG (setT y (addT e (xT y))) G))
          rw [hG]
  exact callV_of rfl (b_loadSome hB (loop 16 0 I x none okO_n (by omega) (fun _ _ => rfl) hx hU hS hg hl rfl))
