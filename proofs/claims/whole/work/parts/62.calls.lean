/-! THE OTHER CALLS, class -/
def sSetX (S : St) (i : Nat) (x : Ix) : St := (S.1, S.2.1, upN (sX S) i x, S.2.2.2)
/-- an index's cells alone have changed -/
theorem rsc_x {I J : Mm} {S : St} {i : Nat} {x : Ix} (hi : i < 6) (hF : XFr I J (62 + 25 * i)) (hx : IxC J (62 + 25 * i) x) (hS : RSC I S) : RSC J (sSetX S i x) ∧ HFr I J := by
  obtain ⟨r1, r2, r3, r4, r5⟩ := hS
  refine ⟨⟨rowC_cg (hF _ (by omega)) (hF _ (by omega)) (hF _ (by omega)) r1, fun t ht => txC_cg (fun c h1 h2 => hF c (by omega)) (r2 t ht), fun j hj => ?_, bdC_cg (hF _ (by omega)) (hF _ (by omega)) r4, qsC_cg (hF _ (by omega)) (hF _ (by omega)) r5⟩, fun c hc => hF c (by omega)⟩
  show IxC J (62 + 25 * j) (upN (sX S) i x j)
  by_cases c : j = i
  · subst c; rw [upN_s]; exact hx
  · rw [upN_o c]; exact ixC_fr (fun c' h1 h2 => hF c' (by omega)) (r3 j hj)
abbrev isK (a b c : Int) : Prop := (0 ≤ a ∧ a < 4) ∧ ((b = -1 ∧ c = -1) ∨ ((0 ≤ b ∧ b < 4 ∧ ¬ b = a) ∧ (c = -1 ∨ (0 ≤ c ∧ c < 4 ∧ ¬ c = a ∧ ¬ c = b))))
theorem c_isKey {I : Mm} {K : Int → Mm → Prop} {a b c : Int} (ia : inR a) (ib : inR b) (ic : inR c) (h0 : ¬ isK a b c → K 0 I) (h1 : isK a b c → K 1 I) : CallZ 113 [.inl (1, a), .inl (1, b), .inl (1, c)] I K := by
  refine callZ_of rfl (b_c_isKey ia ib ic ⟨fun _ => h0 (by omega), fun _ => ⟨fun _ => h0 (by omega), fun _ => ⟨fun _ => ⟨fun _ => h1 (by omega), fun _ => h0 (by omega)⟩, fun _ => ⟨fun _ => h0 (by omega), fun _ => ⟨fun _ => h0 (by omega), fun _ => ⟨fun _ => h0 (by omega), fun _ => ⟨fun _ => h1 (by omega), fun _ => ⟨fun _ => h0 (by omega), fun _ => ⟨fun _ => h0 (by omega), fun _ => ⟨fun _ => h0 (by omega), fun _ => ⟨fun _ => h0 (by omega), fun _ => h1 (by omega)⟩⟩⟩⟩⟩⟩⟩⟩⟩⟩⟩)
def fxi (S : St) : Int := ff (fun i => decide (xU (sX S i) = 0)) 6 0
def oIndex (S : St) (a b c un : Int) : Int × St := if ¬ isK a b c then (-102, S) else if fxi S = -1 then (-104, S) else (fxi S, sSetX S (fxi S).toNat (xStart un (keyOf a b c) (a, b, c)))
theorem c_index {I : Mm} {K : Int → Mm → Prop} {S : St} {a b c un : Int} (ia : inR a) (ib : inR b) (ic : inR c) (hun : un = 0 ∨ un = 1) (hS : RSC I S)
    (hK : ∀ I' : Mm, HFr I I' → RSC I' (oIndex S a b c un).2 → K (oIndex S a b c un).1 I') : CallZ 107 [.inr (0, 0, 0), .inl (1, a), .inl (1, b), .inl (1, c), .inl (1, un)] I K := by
  have iu : inR un := by rcases hun with h | h <;> rw [h] <;> exact ⟨by omega, by omega⟩
  have loop : isK a b c → ∀ (d i : Nat), i + d = 6 → ff (fun i => decide (xU (sX S i) = 0)) d i = fxi S → GoA 107 15 [some (.inr (0, 0, 0)), some (.inl (1, a)), some (.inl (1, b)), some (.inl (1, c)), some (.inl (1, un)), some (.inl (1, (i : Int)))] [] I (rZ K) := by
    intro hk d
    unfold oIndex at hK
    rw [if_neg (fun c => c hk)] at hK
    induction d with
    | zero =>
      intro i hi hf
      refine b_c_index_15 ia ib ic iu (inRn (by omega)) ⟨fun _ => ?_, fun z => absurd (by omega) z⟩
      have hf' : fxi S = -1 := hf.symm
      rw [if_pos hf'] at hK
      exact hK I (fun _ _ => rfl) hS
    | succ d ih =>
      intro i hi hf
      have hf : (if decide (xU (sX S i) = 0) = true then (i : Int) else ff (fun i => decide (xU (sX S i) = 0)) d (i + 1)) = fxi S := hf
      have hx := hS.2.2.1 i (by omega)
      refine b_c_index_15 ia ib ic iu (inRn (by omega)) ⟨fun z => absurd z (by omega), fun _ => ⟨by omega, ?_⟩⟩
      rw [Int.toNat_natCast, hx.1]
      refine ⟨fun z => ⟨by omega, ?_⟩, fun z => ?_⟩
      · rw [if_pos (decide_eq_true z)] at hf
        rw [← hf, if_neg (by omega), Int.toNat_natCast] at hK
        refine c_start (isX_i (by omega)) hx.2.1 hk.1 (by omega) (by omega) (by omega) hun ?_
        intro I1 f1 f2
        have := rsc_x (by omega) f1 f2 hS
        exact hK I1 this.2 this.1
      · rw [if_neg (by rw [decide_eq_true_eq]; exact z)] at hf
        intro v5 e5 _
        rw [wrn (i + 1) (by omega) (by omega)] at e5
        subst e5
        exact ih (i + 1) (by omega) hf
  refine callZ_of rfl (b_c_index ia ib ic iu ?_)
  refine c_isKey ia ib ic (fun hn => ?_) (fun hk => ?_)
  · refine ⟨fun _ => ?_, fun z => absurd rfl z⟩
    unfold oIndex at hK
    rw [if_pos hn] at hK
    exact hK I (fun _ _ => rfl) hS
  · exact ⟨fun z => absurd z (by decide), fun _ => loop hk 6 0 (by omega) rfl⟩
/-- an index that is there -/
abbrev isI (S : St) (i : Int) : Prop := 0 ≤ i ∧ i < 6 ∧ ¬ xU (sX S i.toNat) = 0
theorem ix_cs {I : Mm} {S : St} {i : Int} {P : Prop} (hS : RSC I S) (hO : SOK S) (h0 : ¬ isI S i → (¬ i < 0 → ¬ 6 ≤ i → rd I (62 + 25 * i.toNat) 0 = 0) → P) (h1 : ∀ n : Nat, i = n → n < 6 → isI S i → rd I (62 + 25 * n) 0 = 1 → xU (sX S n) = 1 → kyOK (xK (sX S n)) → good (xT (sX S n)) → (lsT (xT (sX S n))).length ≤ 646 → xP (sX S n) ≤ 40 → IxC I (62 + 25 * n) (sX S n) → P) : P := by
  by_cases c : isI S i
  · obtain ⟨c1, c2, c3⟩ := c
    obtain ⟨n, hn⟩ : ∃ n : Nat, i = n := ⟨i.toNat, by omega⟩
    subst hn
    rw [Int.toNat_natCast] at c3
    have hx := hS.2.2.1 n (by omega)
    rcases hO.2.1 n (by omega) with h | ⟨a1, a2, a3, a4, a5⟩
    · exact absurd h c3
    · exact h1 n rfl (by omega) ⟨c1, c2, by rw [Int.toNat_natCast]; exact c3⟩ (by rw [hx.1, a1]) a1 a2 a3 a4 a5 hx
  · refine h0 c (fun z1 z2 => ?_)
    apply Classical.byContradiction
    intro h
    have := (hS.2.2.1 i.toNat (by omega)).1
    exact c ⟨by omega, by omega, by rw [← this]; exact h⟩
def xOff (x : Ix) : Ix := ((0, x.1.2), x.2)
def oDrop (S : St) (i : Int) : Int × St := if ¬ isI S i then (-101, S) else (1, sSetX S i.toNat (xOff (sX S i.toNat)))
theorem c_drop {I : Mm} {K : Int → Mm → Prop} {S : St} {i : Int} (ii : inR i) (hS : RSC I S) (hO : SOK S)
    (hK : ∀ I' : Mm, HFr I I' → RSC I' (oDrop S i).2 → K (oDrop S i).1 I') : CallZ 108 [.inr (0, 0, 0), .inl (1, i)] I K := by
  unfold oDrop at hK
  refine ix_cs (i := i) hS hO (fun hn hz => ?_) (fun n e n6 hI u1 u2 k1 g1 l1 p1 hx => ?_)
  · rw [if_pos hn] at hK
    have k := hK I (fun _ _ => rfl) hS
    exact callZ_of rfl (b_c_drop ii ⟨fun _ => k, fun z => ⟨fun _ => k, fun z2 => ⟨by omega, fun _ => k, fun z3 => absurd (hz z z2) z3⟩⟩⟩)
  · rw [if_neg (fun c => c hI)] at hK
    subst e
    rw [Int.toNat_natCast] at hK
    refine callZ_of rfl (b_c_drop ii ⟨fun z => absurd z (by omega), fun _ => ⟨fun z => absurd z (by omega), fun _ => ⟨by omega, ?_⟩⟩⟩)
    rw [Int.toNat_natCast, u1]
    refine ⟨fun z => absurd z (by decide), fun _ => ⟨by omega, ?_⟩⟩
    intro I1 e1
    have F : XFr I I1 (62 + 25 * n) := fun c hc => by rw [e1, wt_a _ _ _ _ (by omega)]
    have := rsc_x (x := xOff (sX S n)) n6 F ⟨by rw [e1, rd_wt_s _ _ _ ⟨by omega, by omega⟩]; rfl, szOK_cg (by rw [e1, wt_a _ _ _ _ (by omega)]) hx.2.1, fun z => absurd rfl z⟩ hS
    exact hK I1 this.2 this.1
def stN (w : Rw) : Nat → Ix → Ix
  | 0, x => x
  | n + 1, x => if xS x < 4 then stN w n (xStep w x) else x
def oStep (S : St) (i n : Int) : Int × St := if ¬ isI S i then (-101, S) else if n < 1 ∨ 1000 < n then (-102, S) else (xS (stN (sW S) n.toNat (sX S i.toNat)), sSetX S i.toNat (stN (sW S) n.toNat (sX S i.toNat)))
/-- every state on the way of building is as a step asks -/
def SSK (S : St) : Prop := ∀ i, i < 6 → xU (sX S i) = 1 → ∀ n, stOK (stN (sW S) n (sX S i)) ∧ xU (stN (sW S) n (sX S i)) = 1 ∧ (xS (stN (sW S) n (sX S i)) = 3 → xL (stN (sW S) n (sX S i)) = [] → AllE (xK (stN (sW S) n (sX S i))) (sW S) (xT (stN (sW S) n (sX S i))))
theorem stN_succ (w : Rw) : ∀ (n : Nat) (x : Ix), stN w (n + 1) x = (if xS (stN w n x) < 4 then xStep w (stN w n x) else stN w n x)
  | 0, x => rfl
  | n + 1, x => by
    show (if xS x < 4 then stN w (n + 1) (xStep w x) else x) = (if xS (if xS x < 4 then stN w n (xStep w x) else x) < 4 then xStep w (if xS x < 4 then stN w n (xStep w x) else x) else (if xS x < 4 then stN w n (xStep w x) else x))
    by_cases c : xS x < 4
    · rw [if_pos c, if_pos c]
      exact stN_succ w n (xStep w x)
    · rw [if_neg c, if_neg c, if_neg c]
theorem stN_ge (w : Rw) {x : Ix} (h : ¬ xS x < 4) : ∀ n, stN w n x = x
  | 0 => rfl
  | _ + 1 => if_neg h
theorem stN_add (w : Rw) : ∀ (a b : Nat) (x : Ix), stN w (a + b) x = stN w b (stN w a x)
  | 0, b, x => by rw [Nat.zero_add]; rfl
  | a + 1, b, x => by
    rw [show a + 1 + b = (a + b) + 1 by omega]
    show (if xS x < 4 then stN w (a + b) (xStep w x) else x) = stN w b (if xS x < 4 then stN w a (xStep w x) else x)
    by_cases c : xS x < 4
    · rw [if_pos c, if_pos c]; exact stN_add w a b _
    · rw [if_neg c, if_neg c, stN_ge w c]
set_option maxHeartbeats 1000000 in
theorem c_step {I : Mm} {K : Int → Mm → Prop} {S : St} {i n : Int} (ii : inR i) (i_n : inR n) (hS : RSC I S) (hO : SOK S) (hT : SSK S)
    (hK : ∀ I' : Mm, HFr I I' → RSC I' (oStep S i n).2 → K (oStep S i n).1 I') : CallZ 109 [.inr (0, 0, 0), .inl (1, i), .inl (1, n)] I K := by
  unfold oStep at hK
  refine ix_cs (i := i) hS hO (fun hn hz => ?_) (fun m e n6 hI u1 u2 k1 g1 l1 p1 hx => ?_)
  · rw [if_pos hn] at hK
    have k := hK I (fun _ _ => rfl) hS
    exact callZ_of rfl (b_c_step ii i_n ⟨fun _ => k, fun z => ⟨fun _ => k, fun z2 => ⟨by omega, fun _ => k, fun z3 => absurd (hz z z2) z3⟩⟩⟩)
  · rw [if_neg (fun c => c hI)] at hK
    subst e
    rw [Int.toNat_natCast] at hK
    refine callZ_of rfl (b_c_step ii i_n ⟨fun z => absurd z (by omega), fun _ => ⟨fun z => absurd z (by omega), fun _ => ⟨by omega, ?_⟩⟩⟩)
    rw [Int.toNat_natCast, u1]
    refine ⟨fun z => absurd z (by decide), fun _ => ⟨fun z => ?_, fun z => ⟨fun z2 => ?_, fun z2 => ?_⟩⟩⟩
    · rw [if_pos (Or.inl z)] at hK
      exact hK I (fun _ _ => rfl) hS
    · rw [if_neg (by omega)] at hK
      obtain ⟨nn, hnn⟩ : ∃ nn : Nat, n = nn := ⟨n.toNat, by omega⟩
      subst hnn
      rw [Int.toNat_natCast] at hK
      have loop : ∀ (d k : Nat) (J : Mm), k + d = nn → XFr I J (62 + 25 * m) → IxC J (62 + 25 * m) (stN (sW S) k (sX S m)) → GoA 109 28 [some (.inr (0, 0, 0)), some (.inl (1, (m : Int))), some (.inl (1, (nn : Int))), some (.inl (1, (k : Int)))] [] J (rZ K) := by
        intro d
        induction d with
        | zero =>
          intro k J hk hF hxJ
          have : k = nn := by omega
          subst this
          have hU := (hT m n6 u2 k).2.1
          refine b_c_step_28 ii i_n (inRn (by omega)) ⟨fun _ => ⟨by omega, ?_⟩, fun z => absurd (by omega) z⟩
          rw [Int.toNat_natCast, (hxJ.2.2 (by omega)).2.2.2.1.1]
          have := rsc_x n6 hF hxJ hS
          exact hK J this.2 this.1
        | succ d ih =>
          intro k J hk hF hxJ
          have hU := (hT m n6 u2 k).2.1
          have hst := (hT m n6 u2 k).1
          have rS := (hxJ.2.2 (by omega)).2.2.2.1.1
          have rU : rd J (62 + 25 * m) 0 = 1 := by rw [hxJ.1, hU]
          refine b_c_step_28 ii i_n (inRn (by omega)) ⟨fun z => absurd z (by omega), fun _ => ⟨by omega, ?_⟩⟩
          rw [Int.toNat_natCast, rU, rS]
          refine ⟨fun z => absurd z (by decide), fun _ => ⟨fun z => ⟨by omega, ?_⟩, fun z => ⟨by omega, ?_⟩⟩⟩
          · have e : stN (sW S) nn (sX S m) = stN (sW S) k (sX S m) := by rw [show nn = k + (d + 1) by omega, stN_add, stN_ge _ (by omega)]
            rw [e] at hK
            have := rsc_x n6 hF hxJ hS
            exact hK J this.2 this.1
          · have hwJ : RowC J 1 (sW S) := rowC_cg (hF _ (by omega)) (hF _ (by omega)) (hF _ (by omega)) hS.1
            refine c_takeStep (isX_i n6) hU hxJ hst hwJ hO.2.2 (hT m n6 u2 k).2.2 ?_
            intro J1 f1 f2 v3 e3 _
            rw [wrn (k + 1) (by omega) (by omega)] at e3
            subst e3
            refine ih (k + 1) J1 (by omega) (fun c hc => by rw [f1 c hc, hF c hc]) ?_
            rw [stN_succ, if_pos (by omega)]
            exact f2
      exact loop nn 0 I (by omega) (fun _ _ => rfl) hx
    · rw [if_pos (Or.inr (by omega))] at hK
      exact hK I (fun _ _ => rfl) hS
def oInfo (S : St) (i w : Int) : Int := if ¬ isI S i then -101 else
  let x := sX S i.toNat
  if w = 0 then xS x else if w = 1 then (if xQ x = 0 then 0 else 1) else if w = 2 then ((xK x).1 : Int) else if w = 3 then (xF x).1 else if w = 4 then (xF x).2.1 else if w = 5 then (xF x).2.2 else if w = 6 then ((lsT (xT x)).length : Int) else if w = 7 then (((xT x).1 + 1 : Nat) : Int) else if w = 8 then ((ndT (xT x).1 (xT x).2 : Nat) : Int) else if w = 9 then ((xL x).length : Int) else if w = 10 then (xP x : Int) else if w = 11 then (xW x).1 else if w = 12 then (xW x).2.1 else if w = 13 then (xW x).2.2 else -102
set_option maxHeartbeats 1000000 in
theorem c_info {I : Mm} {K : Int → Mm → Prop} {S : St} {i w : Int} (ii : inR i) (iw : inR w) (hS : RSC I S) (hO : SOK S) (hK : K (oInfo S i w) I) : CallZ 110 [.inr (0, 0, 0), .inl (1, i), .inl (1, w)] I K := by
  unfold oInfo at hK
  refine ix_cs (i := i) hS hO (fun hn hz => ?_) (fun n e n6 hI u1 u2 k1 g1 l1 p1 hx => ?_)
  · rw [if_pos hn] at hK
    exact callZ_of rfl (b_c_info ii iw ⟨fun _ => hK, fun z => ⟨fun _ => hK, fun z2 => ⟨by omega, fun _ => hK, fun z3 => absurd (hz z z2) z3⟩⟩⟩)
  · rw [if_neg (fun c => c hI)] at hK
    subst e
    simp only [Int.toNat_natCast] at hK
    obtain ⟨b1, b2, b3, b4, b5, b6, b7, b8⟩ := hx.2.2 (by omega)
    obtain ⟨f, l1', l2, l3, l4, l5⟩ := b7
    have cs := c_size b6
    have cn := c_nodes b6
    have nd := nd_good g1
    refine callZ_of rfl (b_c_info ii iw ⟨fun z => absurd z (by omega), fun _ => ⟨fun z => absurd z (by omega), fun _ => ⟨by omega, ?_⟩⟩⟩)
    rw [Int.toNat_natCast, u1]
    refine ⟨fun z => absurd z (by decide), fun _ => ⟨by omega, ?_⟩⟩
    rw [b4.1, b1, b2.1, b3.1, b3.2.1, b3.2.2, cs, cn, l3, b4.2, b5.1, b5.2.1, b5.2.2]
    refine ⟨fun z => ?_, fun z => ?_, fun z => ⟨fun q => ?_, fun q => ?_⟩, fun z => ?_, fun z => ⟨by omega, ?_⟩, fun z => ⟨by omega, ?_⟩, fun z => ⟨by omega, ?_⟩, fun z => ?_, fun z => ?_, fun z => ?_, fun z => ?_, fun z => ?_, fun z => ?_, fun z => ?_, fun z => ?_, trivial⟩
    · rw [if_neg (by omega), if_neg (by omega), if_neg (by omega), if_neg (by omega), if_neg (by omega), if_neg (by omega), if_neg (by omega), if_neg (by omega), if_neg (by omega), if_neg (by omega), if_neg (by omega), if_neg (by omega), if_neg (by omega), if_neg (by omega)] at hK
      exact hK
    all_goals subst z
    · exact hK
    · rw [if_neg (by decide), if_pos rfl, if_pos q] at hK; exact hK
    · rw [if_neg (by decide), if_pos rfl, if_neg q] at hK; exact hK
    · exact hK
    · exact hK
    · exact hK
    · exact hK
    · show K (wr (648 - (648 - ((lsT (xT (sX S n))).length : Int)))) I
      rw [wrn (lsT (xT (sX S n))).length (by omega) (by omega)]
      exact hK
    · exact c_height (isX_i n6) b6 g1 (by omega) hK
    · show K (wr (348 - (348 - ((ndT (xT (sX S n)).1 (xT (sX S n)).2 : Nat) : Int)))) I
      rw [wrn (ndT (xT (sX S n)).1 (xT (sX S n)).2) (by omega) (by omega)]
      exact hK
    · exact hK
    · exact hK
    · exact hK
    · exact hK
    · exact hK
