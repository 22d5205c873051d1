/-! WAYS AND ANSWERS, class -/
def pgs (w : Rw) : Nat := cntN (fun g => anyN (fun q => !fre w q) 8 (8 * g)) 40 0
set_option maxHeartbeats 1000000 in
theorem c_pages {I : Mm} {K : Int → Mm → Prop} {w : Rw} (hw : RowC I 1 w) (h : K ((pgs w : Nat) : Int) I) : CallZ 122 [.inr (0, 0, 0)] I K := by
  have tot := cntN_le (fun g => anyN (fun q => !fre w q) 8 (8 * g)) 40 0
  have outer : ∀ (d g n : Nat) (m3 m4 : Option AV), okO m3 → okO m4 → g + d = 40 → n + cntN (fun g => anyN (fun q => !fre w q) 8 (8 * g)) d g = pgs w → GoA 122 4 [some (.inr (0, 0, 0)), some (.inl (1, (n : Int))), some (.inl (1, (g : Int))), m3, m4] [] I (rZ K) := by
    intro d
    induction d with
    | zero =>
      intro g n m3 m4 o3 o4 hg hn
      have hn : n = pgs w := hn
      unfold pgs at hn
      refine b_c_pagesInUse_4 (inRn (by omega)) (inRn (by omega)) o3 o4 ⟨fun _ => ?_, fun z => absurd (by omega) z⟩
      rw [hn]; exact h
    | succ d ih =>
      intro g n m3 m4 o3 o4 hg hn
      have hn : n + ((if anyN (fun q => !fre w q) 8 (8 * g) = true then 1 else 0) + cntN (fun g => anyN (fun q => !fre w q) 8 (8 * g)) d (g + 1)) = pgs w := hn
      have ptot : pgs w ≤ 40 := tot
      have inner : ∀ (e k : Nat) (u : Bool), k + e = 8 → (u || anyN (fun q => !fre w q) e (8 * g + k)) = anyN (fun q => !fre w q) 8 (8 * g) → GoA 122 15 [some (.inr (0, 0, 0)), some (.inl (1, (n : Int))), some (.inl (1, (g : Int))), some (.inl (1, b01 u)), some (.inl (1, (k : Int)))] [] I (rZ K) := by
        intro e
        have iu : ∀ u : Bool, inR (b01 u) := fun u => by cases u <;> exact ⟨by decide, by decide⟩
        have fin : ∀ (u : Bool) (k : Nat), k ≤ 8 → u = anyN (fun q => !fre w q) 8 (8 * g) → (b01 u = 0 → ∀ v2_1, v2_1 = wr ((g : Int) + 1) → inR v2_1 → GoA 122 4 [some (.inr (0, 0, 0)), some (.inl (1, (n : Int))), some (.inl (1, v2_1)), some (.inl (1, b01 u)), some (.inl (1, (k : Int)))] [] I (rZ K)) ∧ (¬ b01 u = 0 → ∀ v1_2, v1_2 = wr ((n : Int) + 1) → inR v1_2 → ∀ v2_3, v2_3 = wr ((g : Int) + 1) → inR v2_3 → GoA 122 4 [some (.inr (0, 0, 0)), some (.inl (1, v1_2)), some (.inl (1, v2_3)), some (.inl (1, b01 u)), some (.inl (1, (k : Int)))] [] I (rZ K)) := by
          intro u k hk hu
          refine ⟨fun z v2 e2 _ => ?_, fun z v1 e1 _ v2 e2 _ => ?_⟩
          · rw [← hu, b01_0.mp z, if_neg (by decide)] at hn
            rw [wrn (g + 1) (by omega) (by omega)] at e2
            subst e2
            exact ih (g + 1) n _ _ (okO_s (okF_1 (iu u) 1)) (okO_s (okF_1 (inRn (by omega)) 1)) (by omega) (by omega)
          · have ut : u = true := by cases u; exact absurd rfl z; rfl
            rw [← hu, ut, if_pos rfl] at hn
            rw [wrn (n + 1) (by omega) (by omega)] at e1
            rw [wrn (g + 1) (by omega) (by omega)] at e2
            subst e1; subst e2
            exact ih (g + 1) (n + 1) _ _ (okO_s (okF_1 (iu u) 1)) (okO_s (okF_1 (inRn (by omega)) 1)) (by omega) (by omega)
        induction e with
        | zero =>
          intro k u hk hu
          have hu : (u || false) = anyN (fun q => !fre w q) 8 (8 * g) := hu
          rw [Bool.or_false] at hu
          refine b_c_pagesInUse_15 (inRn (by omega)) (inRn (by omega)) (iu u) (inRn (by omega)) ⟨fun _ => fin u k (by omega) hu, fun z => absurd (by omega) z⟩
        | succ e ihe =>
          intro k u hk hu
          have hu : (u || (!fre w (8 * g + k) || anyN (fun q => !fre w q) e (8 * g + k + 1))) = anyN (fun q => !fre w q) 8 (8 * g) := hu
          refine b_c_pagesInUse_15 (inRn (by omega)) (inRn (by omega)) (iu u) (inRn (by omega)) ⟨fun z => absurd z (by omega), fun _ => ⟨fun z => ?_, fun z => ?_⟩⟩
          · have uf := b01_0.mp z
            rw [uf, Bool.false_or] at hu
            have p3 : 8 * g + k < 320 := by omega
            have wv : rd I 6 (8 * g + k) = w.2.2 (8 * g + k) := (hw _ p3).2.2
            have cu : imC I 5 (8 * g + k) = w.2.1 (8 * g + k) := (hw _ p3).2.1
            have w1 : wr ((g : Int) * 8 + (k : Int)) = ((8 * g + k : Nat) : Int) := wrn _ (by omega) (by omega)
            have w2 : wr (((g : Int) * 8 + (k : Int)) * 5 + 4) = ((5 * (8 * g + k) + 4 : Nat) : Int) := wrn _ (by omega) (by omega)
            rw [w1, w2, Int.toNat_natCast, Int.toNat_natCast, wv]
            have nx : ∀ (u' : Bool) (c : Int), c = b01 u' → (!fre w (8 * g + k)) = u' → ∀ v4, v4 = wr ((k : Int) + 1) → inR v4 → GoA 122 15 [some (.inr (0, 0, 0)), some (.inl (1, (n : Int))), some (.inl (1, (g : Int))), some (.inl (1, c)), some (.inl (1, v4))] [] I (rZ K) := by
              intro u' c hc hf v4 e4 _
              rw [wrn (k + 1) (by omega) (by omega)] at e4
              subst e4
              subst hc
              refine ihe (k + 1) u' (by omega) ?_
              rw [hf] at hu
              exact hu
            refine ⟨by omega, fun z2 => ⟨by omega, fun z3 => ?_, fun z3 => ?_⟩, fun z2 => ?_⟩
            · rw [imC_none z3] at cu
              exact nx false 0 rfl (by unfold fre; rw [decide_eq_true z2, ← cu]; rfl)
            · obtain ⟨y, hy⟩ := imC_ex z3
              rw [hy] at cu
              exact nx true 1 rfl (by unfold fre; rw [← cu]; simp)
            · exact nx true 1 rfl (by unfold fre; rw [decide_eq_false z2]; rfl)
          · have ut : u = true := by cases u; exact absurd rfl z; rfl
            rw [ut, Bool.true_or] at hu
            exact fin u k (by omega) (by rw [ut]; exact hu)
      refine b_c_pagesInUse_4 (inRn (by omega)) (inRn (by omega)) o3 o4 ⟨fun z => absurd z (by omega), fun _ => ?_⟩
      exact inner 8 0 false (by omega) (by rw [Bool.false_or]; rfl)
  exact callZ_of rfl (b_c_pagesInUse (outer 40 0 0 none none okO_n okO_n (by omega) (by unfold pgs; omega)))
def rng (S : St) (i : Nat) : Nat := ((lsT (xT (sX S i))).filter (fun e => rgE (xK (sX S i)) (sLo S) (sHi S) e (xK (sX S i)).1 0)).length
def cst (S : St) (w : Nat) : Nat := if w = 0 then 8 * pgs (sW S) else (xT (sX S (w - 1))).1 + 1 + 3 * rng S (w - 1)
theorem rng_le (S : St) (i : Nat) : rng S i ≤ (lsT (xT (sX S i))).length := List.length_filter_le _ _
theorem c_costOf {I : Mm} {K : Int → Mm → Prop} {S : St} {w fa : Nat} (hS : RSC I S) (hO : SOK S) (hw : w ≤ 6) (hr : w = 0 ∨ rdy (sX S (w - 1)) = true) (hK : ∀ I' : Mm, HFr I I' → RSC I' S → K ((cst S w : Nat) : Int) I') : CallZ 121 [.inr (0, 0, 0), .inl (fa, (w : Int))] I K := by
  refine callZ_fl (as' := [.inr (0, 0, 0), .inl (1, (w : Int))]) rfl ?_
  unfold cst at hK
  refine callZ_of rfl (b_c_costOf (inRn (by omega)) ⟨fun z => ?_, fun z => ?_⟩)
  · rw [if_pos (by omega)] at hK
    have tot : pgs (sW S) ≤ 40 := cntN_le _ _ _
    refine c_pages hS.1 ?_
    show K (wr (8 * ((pgs (sW S) : Nat) : Int))) I
    rw [wrn (8 * pgs (sW S)) (by omega) (by omega)]
    exact hK I (fun _ _ => rfl) hS
  · rw [if_neg (by omega)] at hK
    have hr : rdy (sX S (w - 1)) = true := by rcases hr with h | h; omega; exact h
    have hr' := of_decide_eq_true hr
    have hx := hS.2.2.1 (w - 1) (by omega)
    rcases hO.2.1 (w - 1) (by omega) with h | ⟨u1, u2, u3, u4, u5⟩
    · exact absurd h hr'.1
    · obtain ⟨b1, b2, b3, b4, b5, b6, b7, b8⟩ := hx.2.2 hr'.1
      have wv : wr ((w : Int) - 1) = ((w - 1 : Nat) : Int) := wrn _ (by omega) (by omega)
      rw [wv, Int.toNat_natCast]
      refine ⟨by omega, ?_⟩
      refine c_height (isX_i (by omega)) b6 u3 (by omega) ?_
      refine c_rangeSize (isX_i (by omega)) u2 b2 b6 u3 (by omega) hS.2.2.2.1 ?_
      intro I1 f1 f2
      have := rsc_w (by omega) u1 f1 f2 hS
      have hh : (xT (sX S (w - 1))).1 ≤ 5 := ht_good u3 (by omega)
      have rl := rng_le S (w - 1)
      show K (wr ((((xT (sX S (w - 1))).1 + 1 : Nat) : Int) + 3 * ((rng S (w - 1) : Nat) : Int))) I1
      rw [wrn ((xT (sX S (w - 1))).1 + 1 + 3 * rng S (w - 1)) (by omega) (by omega)]
      exact hK I1 this.2 this.1
theorem hfr_tr {I J L : Mm} (h1 : HFr I J) (h2 : HFr J L) : HFr I L := fun c hc => by rw [h2 c hc, h1 c hc]
def oCost (S : St) (w : Int) : Int := if w < 0 ∨ 6 < w then -102 else if 0 < w ∧ rdy (sX S (w.toNat - 1)) = false then -101 else ((cst S w.toNat : Nat) : Int)
theorem c_cost {I : Mm} {K : Int → Mm → Prop} {S : St} {w : Int} (iw : inR w) (hS : RSC I S) (hO : SOK S) (hK : ∀ I' : Mm, HFr I I' → RSC I' S → K (oCost S w) I') : CallZ 118 [.inr (0, 0, 0), .inl (1, w)] I K := by
  unfold oCost at hK
  refine callZ_of rfl (b_c_cost iw ⟨fun z => ?_, fun z => ⟨fun z2 => ?_, fun z2 => ?_⟩⟩)
  · rw [if_pos (Or.inl z)] at hK
    exact hK I (fun _ _ => rfl) hS
  · rw [if_neg (by omega)] at hK
    obtain ⟨wn, hwn⟩ : ∃ wn : Nat, w = wn := ⟨w.toNat, by omega⟩
    subst hwn
    rw [Int.toNat_natCast] at hK
    refine ⟨fun z3 => ?_, fun z3 => ?_⟩
    · rw [if_neg (fun c => absurd c.1 (by omega))] at hK
      exact c_costOf hS hO (by omega) (Or.inl (by omega)) hK
    · have wv : wr ((wn : Int) - 1) = ((wn - 1 : Nat) : Int) := wrn _ (by omega) (by omega)
      have hx := hS.2.2.1 (wn - 1) (by omega)
      rw [wv, Int.toNat_natCast, hx.1]
      have no : ¬ (¬ xU (sX S (wn - 1)) = 0 ∧ xS (sX S (wn - 1)) = 4) → K (-101) I := fun c => by
        rw [if_pos ⟨by omega, decide_eq_false c⟩] at hK
        exact hK I (fun _ _ => rfl) hS
      refine ⟨fun c => absurd c (by omega), fun _ => ⟨fun c => absurd c (by omega), fun _ => ⟨by omega, fun z4 => no (fun c => c.1 z4), fun z4 => ⟨by omega, ?_⟩⟩⟩⟩
      rw [(hx.2.2 z4).2.2.2.1.1]
      refine ⟨fun z5 => ?_, fun z5 => no (fun c => z5 c.2)⟩
      have hr : rdy (sX S (wn - 1)) = true := decide_eq_true ⟨z4, z5⟩
      rw [if_neg (fun c => by rw [hr] at c; exact absurd c.2 (by decide))] at hK
      exact c_costOf hS hO (by omega) (Or.inr hr) hK
  · rw [if_pos (Or.inr (by omega))] at hK
    exact hK I (fun _ _ => rfl) hS
def chL (S : St) : Nat → Nat → Nat → Nat
  | 0, _, b => b
  | d + 1, i, b => chL S d (i + 1) (if rdy (sX S i) = true ∧ cst S (i + 1) < cst S b then i + 1 else b)
theorem cst_le {S : St} (hO : SOK S) {w : Nat} (hw : w ≤ 6) (hr : w = 0 ∨ rdy (sX S (w - 1)) = true) : cst S w ≤ 2000 := by
  unfold cst
  by_cases c : w = 0
  · rw [if_pos c]
    have tot : pgs (sW S) ≤ 40 := cntN_le _ _ _
    omega
  · rw [if_neg c]
    have hr : rdy (sX S (w - 1)) = true := by rcases hr with h | h; exact absurd h c; exact h
    have hr' := of_decide_eq_true hr
    rcases hO.2.1 (w - 1) (by omega) with h | ⟨u1, u2, u3, u4, u5⟩
    · exact absurd h hr'.1
    · have hh : (xT (sX S (w - 1))).1 ≤ 5 := ht_good u3 (by omega)
      have rl := rng_le S (w - 1)
      omega
set_option maxHeartbeats 1000000 in
theorem c_cheapest {I : Mm} {K : Int → Mm → Prop} {S : St} (hS : RSC I S) (hO : SOK S) (hK : ∀ I' : Mm, HFr I I' → RSC I' S → chL S 6 0 0 ≤ 6 → (chL S 6 0 0 = 0 ∨ rdy (sX S (chL S 6 0 0 - 1)) = true) → K ((chL S 6 0 0 : Nat) : Int) I') : CallZ 120 [.inr (0, 0, 0)] I K := by
  have loop : ∀ (d i b : Nat) (J : Mm), i + d = 6 → b ≤ 6 → (b = 0 ∨ rdy (sX S (b - 1)) = true) → chL S d i b = chL S 6 0 0 → HFr I J → RSC J S → GoA 120 10 [some (.inr (0, 0, 0)), some (.inl (1, (b : Int))), some (.inl (1, ((cst S b : Nat) : Int))), some (.inl (1, (i : Int)))] [] J (rZ K) := by
    intro d
    induction d with
    | zero =>
      intro i b J hi hb hr hc hF hJ
      have cb := cst_le hO hb hr
      have hc : b = chL S 6 0 0 := hc
      refine b_c_cheapestWay_10 (inRn (by omega)) (inRn (by omega)) (inRn (by omega)) ⟨fun _ => ?_, fun z => absurd (by omega) z⟩
      have k := hK J hF hJ
      rw [← hc] at k
      exact k hb hr
    | succ d ih =>
      intro i b J hi hb hr hc hF hJ
      have cb := cst_le hO hb hr
      have hc : chL S d (i + 1) (if rdy (sX S i) = true ∧ cst S (i + 1) < cst S b then i + 1 else b) = chL S 6 0 0 := hc
      have hx := hJ.2.2.1 i (by omega)
      have no : ¬ (rdy (sX S i) = true ∧ cst S (i + 1) < cst S b) → ∀ J' : Mm, HFr I J' → RSC J' S → ∀ v3, v3 = wr ((i : Int) + 1) → inR v3 → GoA 120 10 [some (.inr (0, 0, 0)), some (.inl (1, (b : Int))), some (.inl (1, ((cst S b : Nat) : Int))), some (.inl (1, v3))] [] J' (rZ K) := by
        intro hn J' hF' hJ' v3 e3 _
        rw [if_neg hn] at hc
        rw [wrn (i + 1) (by omega) (by omega)] at e3
        subst e3
        exact ih (i + 1) b J' (by omega) hb hr hc hF' hJ'
      refine b_c_cheapestWay_10 (inRn (by omega)) (inRn (by omega)) (inRn (by omega)) ⟨fun z => absurd z (by omega), fun _ => ⟨fun z => absurd z (by omega), fun _ => ⟨fun z => absurd z (by omega), fun _ => ⟨by omega, ?_⟩⟩⟩⟩
      rw [Int.toNat_natCast, hx.1]
      refine ⟨fun z => no (fun c => (of_decide_eq_true c.1).1 z) J hF hJ, fun z => ⟨by omega, ?_⟩⟩
      rw [(hx.2.2 z).2.2.2.1.1]
      refine ⟨fun z2 => ?_, fun z2 => no (fun c => z2 (of_decide_eq_true c.1).2) J hF hJ⟩
      have hri : rdy (sX S i) = true := decide_eq_true ⟨z, z2⟩
      have e1i : (1 : Int) + (i : Int) = ((i + 1 : Nat) : Int) := by omega
      rw [e1i]
      refine c_costOf hJ hO (by omega) (Or.inr (by rw [show i + 1 - 1 = i by omega]; exact hri)) ?_
      intro J1 g1 g2
      have ci := cst_le hO (show i + 1 ≤ 6 by omega) (Or.inr (by rw [show i + 1 - 1 = i by omega]; exact hri))
      refine ⟨fun z3 => no (fun c => absurd c.2 (by omega)) J1 (hfr_tr hF g1) g2, fun z3 => ?_⟩
      intro v1 ev1 _
      rw [wrn (i + 1) (by omega) (by omega)] at ev1
      subst ev1
      refine c_costOf g2 hO (by omega) (Or.inr (by rw [show i + 1 - 1 = i by omega]; exact hri)) ?_
      intro J2 k1 k2 v2 ev2 _ v3 ev3 _
      subst ev2
      rw [wrn (i + 1) (by omega) (by omega)] at ev3
      subst ev3
      rw [if_pos ⟨hri, by omega⟩] at hc
      exact ih (i + 1) (i + 1) J2 (by omega) (by omega) (Or.inr (by rw [show i + 1 - 1 = i by omega]; exact hri)) hc (hfr_tr (hfr_tr hF g1) k1) k2
  refine callZ_of rfl (b_c_cheapestWay ?_)
  refine callZ_fl (as' := [.inr (0, 0, 0), .inl (1, ((0 : Nat) : Int))]) rfl ?_
  refine c_costOf hS hO (by omega) (Or.inl rfl) ?_
  intro J g1 g2 v2 e2 _
  subst e2
  exact loop 6 0 0 J (by omega) (by omega) (Or.inl rfl) rfl g1 g2
def ftF (lo hi : Nat → Int) (x : F4) : Nat → Nat → Bool
  | 0, _ => true
  | d + 1, f => if fv x f < lo f ∨ hi f < fv x f then false else ftF lo hi x d (f + 1)
def fitI (lo hi : Nat → Int) (m : Im) : Bool := match m with
  | some x => ftF lo hi x 4 0
  | none => false
theorem c_fits {I : Mm} {K : Int → Mm → Prop} {g p fa : Nat} {lo hi : Nat → Int} {m : Im} (hg : isG g) (hp : p < 320) (hb : BdC I lo hi) (hm : imC I (g + 1) p = m) (h : K (b01 (fitI lo hi m)) I) : CallZ 125 [.inr (0, 0, 0), .inr (4, g, 0), .inl (fa, (p : Int))] I K := by
  refine callZ_fl (as' := [.inr (0, 0, 0), .inr (4, g, 0), .inl (1, (p : Int))]) rfl ?_
  refine callZ_of rfl (b_c_fits hg (inRn (by omega)) ?_)
  rw [wrn (5 * p + 4) (by omega) (by omega), Int.toNat_natCast]
  refine ⟨by omega, fun z => ?_, fun z => ?_⟩
  · rw [imC_none z] at hm; rw [← hm] at h; exact h
  · obtain ⟨x, hx⟩ := imC_ex z
    rw [hx] at hm
    rw [← hm] at h
    have h : K (b01 (ftF lo hi x 4 0)) I := h
    have loop : ∀ (d f : Nat) (m4 : Option AV), okO m4 → f + d = 4 → K (b01 (ftF lo hi x d f)) I → GoA 125 12 [some (.inr (0, 0, 0)), some (.inr (4, g, 0)), some (.inl (1, (p : Int))), some (.inl (1, (f : Int))), m4] [] I (rZ K) := by
      intro d
      induction d with
      | zero =>
        intro f m4 o4 hf hh
        exact b_c_fits_12 hg (inRn (by omega)) (inRn (by omega)) o4 ⟨fun _ => hh, fun z => absurd (by omega) z⟩
      | succ d ih =>
        intro f m4 o4 hf hh
        have hh : K (b01 (if fv x f < lo f ∨ hi f < fv x f then false else ftF lo hi x d (f + 1))) I := hh
        refine b_c_fits_12 hg (inRn (by omega)) (inRn (by omega)) o4 ⟨fun z => absurd z (by omega), fun _ => ?_⟩
        rw [wrn (5 * p + f) (by omega) (by omega), Int.toNat_natCast, imC_fv hx (by omega)]
        refine ⟨by omega, ?_⟩
        intro v4 e4 i4
        subst e4
        rw [Int.toNat_natCast, (hb f (by omega)).1, (hb f (by omega)).2]
        refine ⟨by omega, fun z => ?_, fun z => ⟨by omega, fun z2 => ?_, fun z2 => ?_⟩⟩
        · rw [if_pos (Or.inl z)] at hh; exact hh
        · intro v3 e3 _
          rw [wrn (f + 1) (by omega) (by omega)] at e3
          subst e3
          rw [if_neg (by omega)] at hh
          exact ih (f + 1) _ (okO_s (okF_1 i4 1)) (by omega) hh
        · rw [if_pos (Or.inr (by omega))] at hh; exact hh
    exact loop 4 0 none okO_n (by omega) h
