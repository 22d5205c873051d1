/-! COUNTS AND COSTS, class -/
def cntN (f : Nat → Bool) : Nat → Nat → Nat
  | 0, _ => 0
  | d + 1, k => (if f k then 1 else 0) + cntN f d (k + 1)
theorem cntN_le (f : Nat → Bool) : ∀ d k, cntN f d k ≤ d
  | 0, _ => Nat.le_refl _
  | d + 1, k => by
    have := cntN_le f d (k + 1)
    show (if f k = true then 1 else 0) + cntN f d (k + 1) ≤ d + 1
    have h1 : (if f k = true then 1 else 0) ≤ 1 := by split <;> omega
    omega
theorem cntN_cg {f g : Nat → Bool} : ∀ {d k : Nat}, (∀ j, k ≤ j → j < k + d → f j = g j) → cntN f d k = cntN g d k
  | 0, _, _ => rfl
  | d + 1, k, h => by
    show (if f k = true then 1 else 0) + cntN f d (k + 1) = (if g k = true then 1 else 0) + cntN g d (k + 1)
    rw [h k (Nat.le_refl _) (by omega), cntN_cg (fun j h1 h2 => h j (by omega) (by omega))]
def fre (w : Rw) (p : Nat) : Bool := decide (w.2.2 p = -1) && (w.2.1 p).isNone
theorem c_inUse {I : Mm} {K : Int → Mm → Prop} {w : Rw} (hw : RowC I 1 w) (h : K ((cntN (fun p => !fre w p) 320 0 : Nat) : Int) I) : CallZ 52 [.inr (0, 0, 1)] I K := by
  have tot := cntN_le (fun p => !fre w p) 320 0
  have loop : ∀ (d p n : Nat), p + d = 320 → n + cntN (fun p => !fre w p) d p = cntN (fun p => !fre w p) 320 0 → GoA 52 4 [some (.inr (0, 0, 1)), some (.inl (1, (n : Int))), some (.inl (1, (p : Int)))] [] I (rZ K) := by
    intro d
    induction d with
    | zero =>
      intro p n hp hn
      have hn : n = cntN (fun p => !fre w p) 320 0 := hn
      refine b_inUse_4 (inRn (by omega)) (inRn (by omega)) ⟨fun _ => ?_, fun z => absurd (by omega) z⟩
      rw [hn]; exact h
    | succ d ih =>
      intro p n hp hn
      have hn : n + ((if (!fre w p) = true then 1 else 0) + cntN (fun p => !fre w p) d (p + 1)) = cntN (fun p => !fre w p) 320 0 := hn
      have wv : rd I 6 p = w.2.2 p := (hw p (by omega)).2.2
      have cu : imC I 5 p = w.2.1 p := (hw p (by omega)).2.1
      have yes : fre w p = false → ∀ v1, v1 = wr ((n : Int) + 1) → inR v1 → ∀ v2, v2 = wr ((p : Int) + 1) → inR v2 → GoA 52 4 [some (.inr (0, 0, 1)), some (.inl (1, v1)), some (.inl (1, v2))] [] I (rZ K) := by
        intro hf v1 e1 _ v2 e2 _
        rw [hf] at hn
        simp at hn
        rw [wrn (n + 1) (by omega) (by omega)] at e1
        rw [wrn (p + 1) (by omega) (by omega)] at e2
        subst e1; subst e2
        exact ih (p + 1) (n + 1) (by omega) (by omega)
      refine b_inUse_4 (inRn (by omega)) (inRn (by omega)) ⟨fun z => absurd z (by omega), fun _ => ⟨by omega, ?_⟩⟩
      rw [Int.toNat_natCast, wv, wrn (5 * p + 4) (by omega) (by omega), Int.toNat_natCast]
      refine ⟨fun z => ⟨by omega, fun z2 => ?_, fun z2 => ?_⟩, fun z => yes (by unfold fre; rw [decide_eq_false z, Bool.false_and])⟩
      · intro v2 e2 _
        rw [imC_none z2] at cu
        have hf : fre w p = true := by unfold fre; rw [decide_eq_true z, ← cu]; rfl
        rw [hf] at hn
        simp at hn
        rw [wrn (p + 1) (by omega) (by omega)] at e2
        subst e2
        exact ih (p + 1) n (by omega) hn
      · obtain ⟨x, hx⟩ := imC_ex z2
        rw [hx] at cu
        exact yes (by unfold fre; rw [← cu]; simp)
  exact callZ_of rfl (b_inUse (loop 320 0 0 (by omega) (by omega)))
theorem c_actTx {I : Mm} {K : Int → Mm → Prop} {S : St} (hS : RSC I S) (h : K ((cntN (fun t => decide (¬ sA S t = 0)) 8 0 : Nat) : Int) I) : CallZ 132 [.inr (0, 0, 0)] I K := by
  have tot := cntN_le (fun t => decide (¬ sA S t = 0)) 8 0
  have loop : ∀ (d p n : Nat), p + d = 8 → n + cntN (fun t => decide (¬ sA S t = 0)) d p = cntN (fun t => decide (¬ sA S t = 0)) 8 0 → GoA 132 4 [some (.inr (0, 0, 0)), some (.inl (1, (n : Int))), some (.inl (1, (p : Int)))] [] I (rZ K) := by
    intro d
    induction d with
    | zero =>
      intro p n hp hn
      have hn : n = cntN (fun t => decide (¬ sA S t = 0)) 8 0 := hn
      refine b_c_activeTransactions_4 (inRn (by omega)) (inRn (by omega)) ⟨fun _ => ?_, fun z => absurd (by omega) z⟩
      rw [hn]; exact h
    | succ d ih =>
      intro p n hp hn
      have hn : n + ((if decide (¬ sA S p = 0) = true then 1 else 0) + cntN (fun t => decide (¬ sA S t = 0)) d (p + 1)) = cntN (fun t => decide (¬ sA S t = 0)) 8 0 := hn
      have x1 := (hS.2.1 p (by omega)).1
      refine b_c_activeTransactions_4 (inRn (by omega)) (inRn (by omega)) ⟨fun z => absurd z (by omega), fun _ => ⟨by omega, ?_⟩⟩
      rw [Int.toNat_natCast, x1]
      refine ⟨fun z => ?_, fun z => ?_⟩
      · intro v2 e2 _
        rw [if_neg (by rw [decide_eq_true_eq]; exact fun c => c z)] at hn
        rw [wrn (p + 1) (by omega) (by omega)] at e2
        subst e2
        exact ih (p + 1) n (by omega) (by omega)
      · intro v1 e1 _ v2 e2 _
        rw [if_pos (decide_eq_true z)] at hn
        rw [wrn (n + 1) (by omega) (by omega)] at e1
        rw [wrn (p + 1) (by omega) (by omega)] at e2
        subst e1; subst e2
        exact ih (p + 1) (n + 1) (by omega) (by omega)
  exact callZ_of rfl (b_c_activeTransactions (loop 8 0 0 (by omega) (by omega)))
theorem c_ixFrom {I : Mm} {K : Int → Mm → Prop} {S : St} {s : Int} {fa : Nat} (is : inR s) (hS : RSC I S) (h : K ((cntN (fun i => decide (¬ xU (sX S i) = 0 ∧ s ≤ xS (sX S i))) 6 0 : Nat) : Int) I) : CallZ 133 [.inr (0, 0, 0), .inl (fa, s)] I K := by
  have tot := cntN_le (fun i => decide (¬ xU (sX S i) = 0 ∧ s ≤ xS (sX S i))) 6 0
  have loop : ∀ (d p n : Nat), p + d = 6 → n + cntN (fun i => decide (¬ xU (sX S i) = 0 ∧ s ≤ xS (sX S i))) d p = cntN (fun i => decide (¬ xU (sX S i) = 0 ∧ s ≤ xS (sX S i))) 6 0 → GoA 133 4 [some (.inr (0, 0, 0)), some (.inl (1, s)), some (.inl (1, (n : Int))), some (.inl (1, (p : Int)))] [] I (rZ K) := by
    intro d
    induction d with
    | zero =>
      intro p n hp hn
      have hn : n = cntN (fun i => decide (¬ xU (sX S i) = 0 ∧ s ≤ xS (sX S i))) 6 0 := hn
      refine b_c_indexesFrom_4 is (inRn (by omega)) (inRn (by omega)) ⟨fun _ => ?_, fun z => absurd (by omega) z⟩
      rw [hn]; exact h
    | succ d ih =>
      intro p n hp hn
      have hn : n + ((if decide (¬ xU (sX S p) = 0 ∧ s ≤ xS (sX S p)) = true then 1 else 0) + cntN (fun i => decide (¬ xU (sX S i) = 0 ∧ s ≤ xS (sX S i))) d (p + 1)) = cntN (fun i => decide (¬ xU (sX S i) = 0 ∧ s ≤ xS (sX S i))) 6 0 := hn
      have hx := hS.2.2.1 p (by omega)
      have no : ¬ (¬ xU (sX S p) = 0 ∧ s ≤ xS (sX S p)) → ∀ v2, v2 = wr ((p : Int) + 1) → inR v2 → GoA 133 4 [some (.inr (0, 0, 0)), some (.inl (1, s)), some (.inl (1, (n : Int))), some (.inl (1, v2))] [] I (rZ K) := by
        intro hf v2 e2 _
        rw [if_neg (by rw [decide_eq_true_eq]; exact hf)] at hn
        rw [wrn (p + 1) (by omega) (by omega)] at e2
        subst e2
        exact ih (p + 1) n (by omega) (by omega)
      refine b_c_indexesFrom_4 is (inRn (by omega)) (inRn (by omega)) ⟨fun z => absurd z (by omega), fun _ => ⟨by omega, ?_⟩⟩
      rw [Int.toNat_natCast, hx.1]
      refine ⟨fun z => no (fun c => c.1 z), fun z => ⟨by omega, ?_⟩⟩
      rw [(hx.2.2 z).2.2.2.1.1]
      refine ⟨fun z2 => no (fun c => absurd c.2 (by omega)), fun z2 => ?_⟩
      intro v1 e1 _ v2 e2 _
      rw [if_pos (decide_eq_true ⟨z, by omega⟩)] at hn
      rw [wrn (n + 1) (by omega) (by omega)] at e1
      rw [wrn (p + 1) (by omega) (by omega)] at e2
      subst e1; subst e2
      exact ih (p + 1) (n + 1) (by omega) (by omega)
  refine callZ_fl (as' := [.inr (0, 0, 0), .inl (1, s)]) rfl ?_
  exact callZ_of rfl (b_c_indexesFrom is (loop 6 0 0 (by omega) (by omega)))
def rdy (x : Ix) : Bool := decide (¬ xU x = 0 ∧ xS x = 4)
def oCount (S : St) (w : Int) : Int := if w = 0 then ((cntN (fun p => !fre (sW S) p) 320 0 : Nat) : Int) else if w = 1 then ((cntN (fun t => decide (¬ sA S t = 0)) 8 0 : Nat) : Int) else if w = 2 then ((cntN (fun i => decide (¬ xU (sX S i) = 0)) 6 0 : Nat) : Int) else if w = 3 then ((cntN (fun i => rdy (sX S i)) 6 0 : Nat) : Int) else -102
theorem cnt_sub {f g h : Nat → Bool} : ∀ {d k : Nat}, (∀ j, k ≤ j → j < k + d → (if f j then 1 else 0) = (if g j then 1 else 0) + (if h j then 1 else 0)) → cntN f d k = cntN g d k + cntN h d k
  | 0, _, _ => rfl
  | d + 1, k, H => by
    have h1 := H k (Nat.le_refl _) (by omega)
    have h2 := cnt_sub (f := f) (g := g) (h := h) (d := d) (k := k + 1) (fun j h1 h2 => H j (by omega) (by omega))
    show (if f k = true then 1 else 0) + cntN f d (k + 1) = ((if g k = true then 1 else 0) + cntN g d (k + 1)) + ((if h k = true then 1 else 0) + cntN h d (k + 1))
    omega
theorem c_count {I : Mm} {K : Int → Mm → Prop} {S : St} {w : Int} (iw : inR w) (hS : RSC I S) (h5 : ∀ i, i < 6 → ¬ xU (sX S i) = 0 → 1 ≤ xS (sX S i) ∧ xS (sX S i) ≤ 5) (hK : K (oCount S w) I) : CallZ 130 [.inr (0, 0, 0), .inl (1, w)] I K := by
  unfold oCount at hK
  refine callZ_of rfl (b_c_count iw ⟨fun z => ?_, fun z => ?_, fun z => ?_, fun z => ?_, fun z => ?_, trivial⟩)
  · rw [if_neg (by omega), if_neg (by omega), if_neg (by omega), if_neg (by omega)] at hK
    exact hK
  all_goals subst z
  · exact c_inUse hS.1 hK
  · exact c_actTx hS hK
  · refine c_ixFrom ⟨by omega, by omega⟩ hS ?_
    have e : cntN (fun i => decide (¬ xU (sX S i) = 0 ∧ 1 ≤ xS (sX S i))) 6 0 = cntN (fun i => decide (¬ xU (sX S i) = 0)) 6 0 := cntN_cg (fun j _ hj => by
      by_cases c : xU (sX S j) = 0
      · rw [decide_eq_false (fun d => d.1 c), decide_eq_false (fun d => d c)]
      · rw [decide_eq_true ⟨c, (h5 j (by omega) c).1⟩, decide_eq_true c])
    rw [e]
    exact hK
  · refine c_ixFrom ⟨by omega, by omega⟩ hS ?_
    refine c_ixFrom ⟨by omega, by omega⟩ hS ?_
    have t1 := cntN_le (fun i => decide (¬ xU (sX S i) = 0 ∧ 4 ≤ xS (sX S i))) 6 0
    have e : cntN (fun i => decide (¬ xU (sX S i) = 0 ∧ 4 ≤ xS (sX S i))) 6 0 = cntN (fun i => rdy (sX S i)) 6 0 + cntN (fun i => decide (¬ xU (sX S i) = 0 ∧ 5 ≤ xS (sX S i))) 6 0 := cnt_sub (fun j _ hj => by
      unfold rdy
      by_cases c : xU (sX S j) = 0
      · rw [decide_eq_false (fun d => d.1 c), decide_eq_false (fun d => d.1 c), decide_eq_false (fun d => d.1 c)]; rfl
      · have := h5 j (by omega) c
        by_cases c4 : xS (sX S j) = 4
        · rw [decide_eq_true ⟨c, by omega⟩, decide_eq_true ⟨c, c4⟩, decide_eq_false (fun d => absurd d.2 (by omega))]; rfl
        · by_cases c5 : 5 ≤ xS (sX S j)
          · rw [decide_eq_true ⟨c, by omega⟩, decide_eq_false (fun d => c4 d.2), decide_eq_true ⟨c, c5⟩]; rfl
          · rw [decide_eq_false (fun d => absurd d.2 (by omega)), decide_eq_false (fun d => c4 d.2), decide_eq_false (fun d => c5 d.2)]; rfl)
    show K (wr (((cntN (fun i => decide (¬ xU (sX S i) = 0 ∧ 4 ≤ xS (sX S i))) 6 0 : Nat) : Int) - ((cntN (fun i => decide (¬ xU (sX S i) = 0 ∧ 5 ≤ xS (sX S i))) 6 0 : Nat) : Int))) I
    rw [wrn (cntN (fun i => rdy (sX S i)) 6 0) (by omega) (by omega)]
    exact hK
def audL (S : St) : Nat → Nat → Int
  | 0, _ => 0
  | d + 1, i => (if rdy (sX S i) then aud (sX S i) (sW S) else 0) + audL S d (i + 1)
theorem aud_in (x : Ix) (w : Rw) : 0 ≤ aud x w ∧ aud x w ≤ 2 := by
  unfold aud
  constructor <;> (split <;> split <;> omega)
/-- a READY index has every entry -/
def SAK (S : St) : Prop := ∀ i, i < 6 → rdy (sX S i) = true → (∀ p, p < 320 → ∀ e, e ∈ enA (xK (sX S i)) (sW S) p ∨ e ∈ enB (xK (sX S i)) (sW S) p → e ∈ lsT (xT (sX S i))) ∧ AllE (xK (sX S i)) (sW S) (xT (sX S i))
set_option maxHeartbeats 1000000 in
theorem c_audit {I : Mm} {K : Int → Mm → Prop} {S : St} (hS : RSC I S) (hO : SOK S) (hA : SAK S) (hK : ∀ I' : Mm, HFr I I' → RSC I' S → K (audL S 6 0) I') : CallZ 131 [.inr (0, 0, 0)] I K := by
  have loop : ∀ (d i : Nat) (ft : Int) (J : Mm), i + d = 6 → 0 ≤ ft → ft ≤ 2 * i → ft + audL S d i = audL S 6 0 → HFr I J → RSC J S → GoA 131 4 [some (.inr (0, 0, 0)), some (.inl (1, ft)), some (.inl (1, (i : Int)))] [] J (rZ K) := by
    intro d
    induction d with
    | zero =>
      intro i ft J hi h0 h1 hs hF hJ
      have hs : ft + 0 = audL S 6 0 := hs
      rw [Int.add_zero] at hs
      refine b_c_audit_4 ⟨by omega, by omega⟩ (inRn (by omega)) ⟨fun _ => ?_, fun z => absurd (by omega) z⟩
      rw [hs]
      exact hK J hF hJ
    | succ d ih =>
      intro i ft J hi h0 h1 hs hF hJ
      have hs : ft + ((if rdy (sX S i) = true then aud (sX S i) (sW S) else 0) + audL S d (i + 1)) = audL S 6 0 := hs
      have hx := hJ.2.2.1 i (by omega)
      have no : ¬ (¬ xU (sX S i) = 0 ∧ xS (sX S i) = 4) → ∀ v2, v2 = wr ((i : Int) + 1) → inR v2 → GoA 131 4 [some (.inr (0, 0, 0)), some (.inl (1, ft)), some (.inl (1, v2))] [] J (rZ K) := by
        intro hf v2 e2 _
        rw [if_neg (by unfold rdy; rw [decide_eq_true_eq]; exact hf)] at hs
        rw [wrn (i + 1) (by omega) (by omega)] at e2
        subst e2
        exact ih (i + 1) ft J (by omega) h0 (by omega) (by omega) hF hJ
      refine b_c_audit_4 ⟨by omega, by omega⟩ (inRn (by omega)) ⟨fun z => absurd z (by omega), fun _ => ⟨fun z => absurd z (by omega), fun _ => ⟨fun z => absurd z (by omega), fun _ => ⟨by omega, ?_⟩⟩⟩⟩
      rw [Int.toNat_natCast, hx.1]
      refine ⟨fun z => no (fun c => c.1 z), fun z => ⟨by omega, ?_⟩⟩
      rw [(hx.2.2 z).2.2.2.1.1]
      refine ⟨fun z2 => ⟨by omega, ?_⟩, fun z2 => no (fun c => z2 c.2)⟩
      have hr : rdy (sX S i) = true := decide_eq_true ⟨z, z2⟩
      rw [if_pos hr] at hs
      have ai := aud_in (sX S i) (sW S)
      rcases hO.2.1 i (by omega) with h | ⟨u1, u2, u3, u4, u5⟩
      · exact absurd h z
      · refine c_ifaults (isX_i (by omega)) u1 hx u2 hJ.1 u3 (by omega) (hA i (by omega) hr).1 hO.2.2 (hA i (by omega) hr).2 ?_
        intro J1 f1 f2 v1 e1 _ v2 e2 _
        rw [wrx (by omega) (by omega)] at e1
        rw [wrn (i + 1) (by omega) (by omega)] at e2
        subst e1; subst e2
        have := rsc_x (by omega) f1 f2 hJ
        rw [sSetX_id] at this
        exact ih (i + 1) _ J1 (by omega) (by omega) (by omega) (by omega) (fun c hc => by rw [this.2 c hc, hF c hc]) this.1
  exact callZ_of rfl (b_c_audit (loop 6 0 0 I (by omega) (by omega) (by omega) (by omega) (fun _ _ => rfl) hS))
