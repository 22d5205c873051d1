/-! WRITES, class -/
theorem imC_all {I J : Mm} {a b p : Nat} (h : ∀ j, j < 1600 → rd J b j = rd I a j) (hp : p < 320) : imC J b p = imC I a p := by
  unfold imC
  rw [h _ (by omega), h _ (by omega), h _ (by omega), h _ (by omega), h _ (by omega)]
theorem if1600 : (if (1600 : Int) < (1600 : Int) then (1600 : Int) else (1600 : Int)) = ((1600 : Nat) : Int) := if_neg (by omega)
/-- the rows are tried -/
theorem row_try {I I2 I3 I4 : Mm} {w : Rw} (hw : RowC I 1 w) (e2 : I2 = cp I 3 9 0 0 1600) (e3 : I3 = cp I2 5 11 0 0 1600) (e4 : I4 = cp I3 6 12 0 0 320) : RowC I4 7 w ∧ ∀ c, c ≠ 9 → c ≠ 11 → c ≠ 12 → I4 c = I c := by
  refine ⟨fun p hp => ⟨?_, ?_, ?_⟩, fun c c9 c1 c2 => by rw [e4, cp_a _ _ _ _ _ _ c2, e3, cp_a _ _ _ _ _ _ c1, e2, cp_a _ _ _ _ _ _ c9]⟩
  · rw [imC_all (I := I) (J := I4) (a := 3) (b := 7 + 2) (fun j hj => ?_) hp]
    · exact (hw p hp).1
    · show rd I4 9 j = _
      rw [e4, rd_cp_a _ _ _ _ _ _ (by omega), e3, rd_cp_a _ _ _ _ _ _ (by omega), e2, rd_cp, if_pos rfl, if_pos (by omega)]
      congr 1
      omega
  · rw [imC_all (I := I) (J := I4) (a := 5) (b := 7 + 4) (fun j hj => ?_) hp]
    · exact (hw p hp).2.1
    · show rd I4 11 j = _
      rw [e4, rd_cp_a _ _ _ _ _ _ (by omega), e3, rd_cp, if_pos rfl, if_pos (by omega), e2, rd_cp_a _ _ _ _ _ _ (by omega)]
      congr 1
      omega
  · show rd I4 12 p = _
    rw [e4, rd_cp, if_pos rfl, if_pos (by omega), e3, rd_cp_a _ _ _ _ _ _ (by omega), e2, rd_cp_a _ _ _ _ _ _ (by omega), show 0 + (p - 0) = p by omega]
    exact (hw p hp).2.2
theorem wOK_w {w : Rw} {p : Nat} {m : Im} {v : Int} (h : wOK w) (hv : v ≠ -1) : wOK (wRow w p m v) := fun q hq hz => by
  have hz : upN w.2.2 p v q = -1 := hz
  show w.1 q = upN w.2.1 p m q
  by_cases c : q = p
  · rw [c, upN_s] at hz
    exact absurd hz hv
  · rw [upN_o c] at hz ⊢
    exact h q hq hz
set_option maxHeartbeats 2000000 in
theorem c_wouldClash {I : Mm} {K : Int → Mm → Prop} {X : Nat → Ix} {t p fa fb : Nat} {w : Rw} {m : Im} (ht : t < 8) (hp : p < 320) (hw : RowC I 1 w) (hN : wOK w) (hX : ∀ i, i < 6 → IxC I (62 + 25 * i) (X i)) (hk : ∀ i, i < 6 → ¬ xU (X i) = 0 → kyOK (xK (X i))) (hm : imC I 16 0 = m)
    (h : ∀ I' : Mm, (∀ c, c ≠ 9 → c ≠ 11 → c ≠ 12 → I' c = I c) → K (b01 (clS X (wRow w p m t) p)) I') : CallZ 103 [.inr (0, 0, 0), .inl (fa, (t : Int)), .inl (fb, (p : Int))] I K := by
  refine callZ_fl (as' := [.inr (0, 0, 0), .inl (1, (t : Int)), .inl (1, (p : Int))]) rfl ?_
  refine callZ_of rfl (b_c_wouldClash (inRn (by omega)) (inRn (by omega)) ?_)
  refine c_hasGuard hX ?_
  refine ⟨fun z => ?_, fun z => ?_⟩
  · have := h I (fun _ _ _ _ => rfl)
    rw [clS_no (b01_0.mp z)] at this
    exact this
  · rw [if1600, Int.toNat_natCast, wrn (5 * p) (by omega) (by omega), Int.toNat_natCast, Int.toNat_natCast]
    refine ⟨by omega, ?_⟩
    intro I2 e2
    refine ⟨by omega, ?_⟩
    intro I3 e3
    refine ⟨by omega, ?_⟩
    intro I4 e4
    obtain ⟨w4, q4⟩ := row_try hw e2 e3 e4
    refine ⟨by omega, ?_⟩
    intro I5 e5
    have c5 := imC_cp (I := I4) (J := I5) (a := 16) (b := 11) (p := 0) (q := p) (n := 0) e5 (by omega)
    refine ⟨by omega, ?_⟩
    intro I6 e6
    have q6 : ∀ c, c ≠ 9 → c ≠ 11 → c ≠ 12 → I6 c = I c := fun c c9 c1 c2 => by rw [e6, wt_a _ _ _ _ c2, c5.2.2 c c1, q4 c c9 c1 c2]
    have w6 : RowC I6 7 (wRow w p m t) := by
      intro q hq
      refine ⟨?_, ?_, ?_⟩
      · rw [imC_cg (show I6 (7 + 2) = I4 (7 + 2) by rw [e6, wt_a _ _ _ _ (by omega), c5.2.2 _ (by omega)])]
        exact (w4 q hq).1
      · rw [imC_cg (show I6 (7 + 4) = I5 (7 + 4) by rw [e6, wt_a _ _ _ _ (by omega)])]
        show imC I5 11 q = upN w.2.1 p m q
        by_cases c : q = p
        · subst c
          rw [c5.1, upN_s, imC_cg (q4 16 (by omega) (by omega) (by omega)), hm]
        · rw [c5.2.1 q c, upN_o c]
          exact (w4 q hq).2.1
      · show rd I6 12 q = upN w.2.2 p (t : Int) q
        by_cases c : q = p
        · subst c
          rw [e6, rd_wt_s _ _ _ (inRn (by omega)), upN_s]
        · rw [e6, rd_wt_k _ _ _ _ c, upN_o c, rd_of (c5.2.2 12 (by omega))]
          exact (w4 q hq).2.2
    refine callZ_fl (as' := [.inr (0, 0, 0), .inr (6, 7, 0), .inl (1, (p : Int))]) rfl ?_
    refine c_clashesIn (Or.inr rfl) hp w6 (wOK_w hN (by omega)) (fun i hi => ixC_fr (fun c c1 c2 => q6 c (by omega) (by omega) (by omega)) (hX i hi)) hk ?_
    refine ⟨?_, h I6 q6⟩
    cases clS X (wRow w p m t) p
    · exact Or.inl rfl
    · exact Or.inr rfl
def unRow : List Rc → Rw → Rw
  | [], w => w
  | r :: L, w => unRow L (wRow w r.1 r.2.1 r.2.2)
theorem unRow_app : ∀ (L M : List Rc) (w : Rw), unRow (L ++ M) w = unRow M (unRow L w)
  | [], _, _ => rfl
  | _ :: L, M, w => unRow_app L M _
def plR (R : List Rc) (k : Nat) : Nat := match R[k]? with
  | some r => r.1
  | none => 0
def unCl (S : St) (t n : Nat) : Bool := anyN (fun j => clS (sX S) (unRow ((sR S t).drop n).reverse (sW S)) (plR (sR S t) j)) ((sR S t).length - n) n
set_option maxHeartbeats 4000000 in
theorem c_undoWouldClash {I : Mm} {K : Int → Mm → Prop} {S : St} {t n fa fb : Nat} (hS : RSC I S) (ht : t < 8) (ha : sA S t = 1) (hn : n ≤ (sR S t).length) (hk : ∀ i, i < 6 → ¬ xU (sX S i) = 0 → kyOK (xK (sX S i))) (hN : wOK (unRow ((sR S t).drop n).reverse (sW S)))
    (h : ∀ I' : Mm, (∀ c, c ≠ 9 → c ≠ 11 → c ≠ 12 → I' c = I c) → K (b01 (unCl S t n)) I') : CallZ 104 [.inr (0, 0, 0), .inl (fa, (t : Int)), .inl (fb, (n : Int))] I K := by
  obtain ⟨r1, r2, r3, r4, r5⟩ := hS
  obtain ⟨x1, x2⟩ := r2 t ht
  obtain ⟨x3, x4, x5⟩ := x2 (by omega)
  obtain ⟨L, hL⟩ : ∃ L, L = ((sR S t).drop n).reverse := ⟨_, rfl⟩
  have Ll : L.length = (sR S t).length - n := by rw [hL, List.length_reverse, List.length_drop]
  have Lg : ∀ k, k < L.length → L[k]? = (sR S t)[(sR S t).length - 1 - k]? := by
    intro k hk
    rw [hL, List.getElem?_reverse (by rw [List.length_drop]; omega), List.getElem?_drop, List.length_drop]
    congr 1
    omega
  unfold unCl at h
  rw [← hL] at h hN
  have look : ∀ (d j : Nat) (J : Mm) (m1 m2 : Option AV), okO m1 → okO m2 → j + d = (sR S t).length → (∀ c, c ≠ 9 → c ≠ 11 → c ≠ 12 → J c = I c) → RowC J 7 (unRow L (sW S)) → (∀ I' : Mm, (∀ c, c ≠ 9 → c ≠ 11 → c ≠ 12 → I' c = I c) → K (b01 (anyN (fun j => clS (sX S) (unRow L (sW S)) (plR (sR S t) j)) d j)) I') → GoA 104 60 [some (.inr (0, 0, 0)), m1, m2, some (.inr (1, 22 + 5 * t, 0)), some (.inl (1, (j : Int)))] [] J (rZ K) := by
    intro d
    induction d with
    | zero =>
      intro j J m1 m2 o1 o2 hj f1 f2 hh
      have sz : rd J (22 + 5 * t) 1 = (sR S t).length := by rw [rd_of (f1 _ (by omega) (by omega) (by omega)), x3]
      refine b_c_undoWouldClash_60 (isT_t ht) o1 o2 (inRn (by omega)) ⟨fun _ => hh J f1, fun z => absurd (by omega) z⟩
    | succ d ih =>
      intro j J m1 m2 o1 o2 hj f1 f2 hh
      have hh : ∀ I' : Mm, (∀ c, c ≠ 9 → c ≠ 11 → c ≠ 12 → I' c = I c) → K (b01 (clS (sX S) (unRow L (sW S)) (plR (sR S t) j) || anyN (fun j => clS (sX S) (unRow L (sW S)) (plR (sR S t) j)) d (j + 1))) I' := hh
      have sz : rd J (22 + 5 * t) 1 = (sR S t).length := by rw [rd_of (f1 _ (by omega) (by omega) (by omega)), x3]
      obtain ⟨r, hr⟩ : ∃ r, (sR S t)[j]? = some r := ⟨_, List.getElem?_eq_getElem (by omega)⟩
      obtain ⟨p, m, v⟩ := r
      obtain ⟨y1, y2, y3, y4⟩ := x5 j p m v hr
      have pp : plR (sR S t) j = p := by unfold plR; rw [hr]
      rw [pp] at hh
      refine b_c_undoWouldClash_60 (isT_t ht) o1 o2 (inRn (by omega)) ⟨fun z => absurd z (by omega), fun _ => ⟨by omega, ?_⟩⟩
      rw [Int.toNat_natCast, rd_of (f1 (22 + 5 * t + 1) (by omega) (by omega) (by omega)), y1]
      refine callZ_fl (as' := [.inr (0, 0, 0), .inr (6, 7, 0), .inl (1, (p : Int))]) rfl ?_
      refine c_clashesIn (Or.inr rfl) y2 f2 hN (fun i hi => ixC_fr (fun c c1 c2 => f1 c (by omega) (by omega) (by omega)) (r3 i hi)) hk ?_
      cases hc : clS (sX S) (unRow L (sW S)) p with
      | false =>
        rw [hc] at hh
        refine ⟨fun _ v4 e4 _ => ?_, fun z2 => absurd rfl z2⟩
        rw [wrn (j + 1) (by omega) (by omega)] at e4
        subst e4
        exact ih (j + 1) J m1 m2 o1 o2 (by omega) f1 f2 (fun I' hI' => by have := hh I' hI'; rw [Bool.false_or] at this; exact this)
      | true =>
        rw [hc] at hh
        exact ⟨fun z2 => absurd z2 (by decide), fun _ => hh J f1⟩
  have back : ∀ (d k : Nat) (J : Mm), k + d = L.length → (∀ c, c ≠ 9 → c ≠ 11 → c ≠ 12 → J c = I c) → RowC J 7 (unRow (L.take k) (sW S)) → GoA 104 35 [some (.inr (0, 0, 0)), some (.inl (1, (t : Int))), some (.inl (1, (n : Int))), some (.inr (1, 22 + 5 * t, 0)), some (.inl (1, ((sR S t).length : Int) - 1 - (k : Int)))] [] J (rZ K) := by
    intro d
    induction d with
    | zero =>
      intro k J hk f1 f2
      refine b_c_undoWouldClash_35 (isT_t ht) (okO_s (okF_1 (inRn (by omega)) 1)) (inRn (by omega)) ⟨by omega, by omega⟩ ⟨fun _ => ?_, fun z => absurd (by omega) z⟩
      intro v4 e4 _
      subst e4
      rw [show k = L.length by omega, List.take_length] at f2
      exact look ((sR S t).length - n) n J _ _ (okO_s (okF_1 (inRn (by omega)) 1)) (okO_s (okF_1 (inRn (by omega)) 1)) (by omega) f1 f2 h
    | succ d ih =>
      intro k J hk f1 f2
      obtain ⟨rr, hrr⟩ : ∃ rr, rr = (sR S t).length - 1 - k := ⟨_, rfl⟩
      have er : ((sR S t).length : Int) - 1 - (k : Int) = (rr : Int) := by omega
      obtain ⟨r, hr⟩ : ∃ r, (sR S t)[rr]? = some r := ⟨_, List.getElem?_eq_getElem (by omega)⟩
      obtain ⟨p, m, v⟩ := r
      obtain ⟨y1, y2, y3, y4⟩ := x5 rr p m v hr
      have q : ∀ c, 22 + 5 * t ≤ c → c ≤ 22 + 5 * t + 4 → J c = I c := fun c h1 h2 => f1 c (by omega) (by omega) (by omega)
      rw [er]
      refine b_c_undoWouldClash_35 (isT_t ht) (okO_s (okF_1 (inRn (by omega)) 1)) (inRn (by omega)) (inRn (by omega)) ⟨fun z => absurd z (by omega), fun _ => ⟨by omega, ?_⟩⟩
      intro v3 e3 i3
      rw [Int.toNat_natCast, rd_of (q _ (by omega) (by omega)), y1] at e3
      subst e3
      have wp : wr ((p : Int) * 5) = ((5 * p : Nat) : Int) := wrn _ (by omega) (by omega)
      have wrr : wr ((rr : Int) * 5) = ((5 * rr : Nat) : Int) := wrn _ (by omega) (by omega)
      rw [wp, wrr]
      simp only [Int.toNat_natCast]
      refine ⟨by omega, ?_⟩
      intro I1 e1
      have c1 := imC_cp (I := J) (J := I1) (a := 22 + 5 * t + 4) (b := 11) (p := rr) (q := p) (n := 0) e1 (by omega)
      have v2 : rd I1 (22 + 5 * t + 2) rr = v := by rw [rd_of (c1.2.2 _ (by omega)), rd_of (q _ (by omega) (by omega)), y3]
      rw [v2]
      refine ⟨by omega, by omega, ?_⟩
      intro I2 e2 v5 e5 _
      have ev : v5 = ((sR S t).length : Int) - 1 - ((k + 1 : Nat) : Int) := by rw [e5, wrx (by omega) (by omega)]; omega
      subst ev
      have lk : L.take (k + 1) = L.take k ++ [(p, m, v)] := by rw [List.take_add_one, Lg k (by omega), ← hrr, hr]; rfl
      refine ih (k + 1) I2 (by omega) (fun c c9 c11 c12 => by rw [e2, wt_a _ _ _ _ c12, c1.2.2 c c11, f1 c c9 c11 c12]) ?_
      rw [lk, unRow_app]
      show RowC I2 7 (wRow (unRow (L.take k) (sW S)) p m v)
      intro q' hq'
      refine ⟨?_, ?_, ?_⟩
      · rw [imC_cg (show I2 (7 + 2) = J (7 + 2) by rw [e2, wt_a _ _ _ _ (by omega), c1.2.2 _ (by omega)])]
        exact (f2 q' hq').1
      · rw [imC_cg (show I2 (7 + 4) = I1 (7 + 4) by rw [e2, wt_a _ _ _ _ (by omega)])]
        show imC I1 11 q' = upN (unRow (L.take k) (sW S)).2.1 p m q'
        by_cases c : q' = p
        · subst c
          rw [c1.1, upN_s, imC_cg (q _ (by omega) (by omega)), y4]
        · rw [c1.2.1 q' c, upN_o c]
          exact (f2 q' hq').2.1
      · show rd I2 12 q' = upN (unRow (L.take k) (sW S)).2.2 p v q'
        by_cases c : q' = p
        · subst c
          rw [e2, rd_wt_s _ _ _ (by rw [← y3]; exact rd_in _ _ _), upN_s]
        · rw [e2, rd_wt_k _ _ _ _ c, upN_o c, rd_of (c1.2.2 12 (by omega))]
          exact (f2 q' hq').2.2
  refine callZ_fl (as' := [.inr (0, 0, 0), .inl (1, (t : Int)), .inl (1, (n : Int))]) rfl ?_
  refine callZ_of rfl (b_c_undoWouldClash (inRn (by omega)) (inRn (by omega)) ?_)
  refine c_hasGuard r3 ?_
  refine ⟨fun z => ?_, fun z => ?_⟩
  · have := h I (fun _ _ _ _ => rfl)
    rw [anyN_no (fun q _ _ => clS_no (b01_0.mp z))] at this
    exact this
  · rw [if1600, Int.toNat_natCast, Int.toNat_natCast]
    refine ⟨by omega, by omega, ?_⟩
    intro I2 e2
    refine ⟨by omega, ?_⟩
    intro I3 e3
    refine ⟨by omega, ?_⟩
    intro I4 e4
    obtain ⟨w4, q4⟩ := row_try r1 e2 e3 e4
    intro v3 ev3 _
    rw [rd_of (q4 _ (by omega) (by omega) (by omega)), x3, wrx (by omega) (by omega)] at ev3
    subst ev3
    have := back L.length 0 I4 (by omega) q4 w4
    rw [show ((sR S t).length : Int) - 1 - ((0 : Nat) : Int) = ((sR S t).length : Int) - 1 by omega] at this
    exact this
/-- a transaction is under way -/
abbrev act (S : St) (t : Int) : Prop := 0 ≤ t ∧ t < 8 ∧ ¬ sA S t.toNat = 0
/-- what the calls ask of the state -/
def SOK (S : St) : Prop := (∀ t, t < 8 → sA S t = 0 ∨ sA S t = 1) ∧ (∀ i, i < 6 → tlOK (sX S i)) ∧ wOK (sW S)
theorem sok_k {S : St} (h : SOK S) : ∀ i, i < 6 → ¬ xU (sX S i) = 0 → kyOK (xK (sX S i)) := fun i hi z => by
  rcases h.2.1 i hi with a | a
  · exact absurd a z
  · exact a.2.1
def frp (w : Rw) : Int := ff (fun p => decide (w.2.2 p = -1) && (w.2.1 p).isNone) 320 0
theorem frp_in (w : Rw) : frp w = -1 ∨ ∃ p : Nat, frp w = p ∧ p < 320 := by
  rcases ff_in (f := fun p => decide (w.2.2 p = -1) && (w.2.1 p).isNone) (d := 320) (k := 0) with h | ⟨j, h1, h2, h3, h4⟩
  · exact Or.inl h
  · exact Or.inr ⟨j, h1, by omega⟩
theorem c_lfp {I : Mm} {K : Int → Mm → Prop} {w : Rw} (hw : RowC I 1 w) (h : K (frp w) I) : CallZ 99 [.inr (0, 0, 0)] I K := by
  have loop : ∀ (d p : Nat), p + d = 320 → K (ff (fun p => decide (w.2.2 p = -1) && (w.2.1 p).isNone) d p) I → GoA 99 2 [some (.inr (0, 0, 0)), some (.inl (1, (p : Int)))] [] I (rZ K) := by
    intro d
    induction d with
    | zero =>
      intro p hp hh
      exact b_c_leastFreePlace_2 (inRn (by omega)) ⟨fun _ => hh, fun z => absurd (by omega) z⟩
    | succ d ih =>
      intro p hp hh
      have hh : K (if (decide (w.2.2 p = -1) && (w.2.1 p).isNone) = true then (p : Int) else ff (fun p => decide (w.2.2 p = -1) && (w.2.1 p).isNone) d (p + 1)) I := hh
      have nxt : (decide (w.2.2 p = -1) && (w.2.1 p).isNone) = false → ∀ v1, v1 = wr ((p : Int) + 1) → inR v1 → GoA 99 2 [some (.inr (0, 0, 0)), some (.inl (1, v1))] [] I (rZ K) := by
        intro hf v1 e1 _
        rw [wrn (p + 1) (by omega) (by omega)] at e1
        subst e1
        rw [hf, if_neg (by decide)] at hh
        exact ih (p + 1) (by omega) hh
      have wv : rd I 6 p = w.2.2 p := (hw p (by omega)).2.2
      have cu : imC I 5 p = w.2.1 p := (hw p (by omega)).2.1
      refine b_c_leastFreePlace_2 (inRn (by omega)) ⟨fun z => absurd z (by omega), fun _ => ⟨by omega, ?_⟩⟩
      rw [Int.toNat_natCast, wv, wrn (5 * p + 4) (by omega) (by omega), Int.toNat_natCast]
      refine ⟨fun z => ⟨by omega, fun z2 => ?_, fun z2 => ?_⟩, fun z => nxt (by rw [decide_eq_false z, Bool.false_and])⟩
      · rw [imC_none z2] at cu
        rw [← cu, decide_eq_true z] at hh
        exact hh
      · obtain ⟨x, hx⟩ := imC_ex z2
        rw [hx] at cu
        exact nxt (by rw [← cu]; simp)
  exact callZ_of rfl (b_c_leastFreePlace (loop 320 0 (by omega) h))
theorem rsc_of {I J : Mm} {S : St} (h : ∀ c, c < 212 → c ≠ 9 → c ≠ 11 → c ≠ 12 → c ≠ 16 → J c = I c) (hS : RSC I S) : RSC J S := by
  obtain ⟨r1, r2, r3, r4, r5⟩ := hS
  exact ⟨rowC_cg (h _ (by omega) (by omega) (by omega) (by omega) (by omega)) (h _ (by omega) (by omega) (by omega) (by omega) (by omega)) (h _ (by omega) (by omega) (by omega) (by omega) (by omega)) r1, fun t ht => txC_cg (fun c h1 h2 => h c (by omega) (by omega) (by omega) (by omega) (by omega)) (r2 t ht), fun i hi => ixC_fr (fun c h1 h2 => h c (by omega) (by omega) (by omega) (by omega) (by omega)) (r3 i hi), bdC_cg (h _ (by omega) (by omega) (by omega) (by omega) (by omega)) (h _ (by omega) (by omega) (by omega) (by omega) (by omega)) r4, qsC_cg (h _ (by omega) (by omega) (by omega) (by omega) (by omega)) (h _ (by omega) (by omega) (by omega) (by omega) (by omega)) r5⟩
def oIns (S : St) (t a b c d : Int) : Int × St := if ¬ act S t then (-101, S) else if frp (sW S) = -1 ∨ 200 ≤ (sR S t.toNat).length then (-104, S) else if clS (sX S) (wRow (sW S) (frp (sW S)).toNat (some (a, b, c, d)) t) (frp (sW S)).toNat = true then (-105, S) else (frp (sW S), sWrite S t.toNat (frp (sW S)).toNat (some (a, b, c, d)))
set_option maxHeartbeats 4000000 in
theorem c_insert {I : Mm} {K : Int → Mm → Prop} {S : St} {t a b c d : Int} (it : inR t) (ia : inR a) (ib : inR b) (ic : inR c) (id : inR d) (hS : RSC I S) (hO : SOK S)
    (hK : ∀ I' : Mm, HFr I I' → RSC I' (oIns S t a b c d).2 → K (oIns S t a b c d).1 I') : CallZ 87 [.inr (0, 0, 0), .inl (1, t), .inl (1, a), .inl (1, b), .inl (1, c), .inl (1, d)] I K := by
  have hS0 := hS
  obtain ⟨r1, r2, r3, r4, r5⟩ := hS
  unfold oIns at hK
  refine callZ_of rfl (b_c_insert it ia ib ic id ⟨fun z => ?_, fun z => ⟨fun z2 => ?_, fun z2 => ⟨by omega, ?_⟩⟩⟩)
  · rw [if_pos (fun c => absurd c.1 (by omega))] at hK
    exact hK I (fun _ _ => rfl) hS0
  · rw [if_pos (fun c => absurd c.2.1 (by omega))] at hK
    exact hK I (fun _ _ => rfl) hS0
  · obtain ⟨tn, htn⟩ : ∃ tn : Nat, t = tn := ⟨t.toNat, by omega⟩
    subst htn
    simp only [Int.toNat_natCast] at hK ⊢
    have t8 : tn < 8 := by omega
    obtain ⟨x1, x2⟩ := r2 tn t8
    rw [x1]
    refine ⟨fun z3 => ?_, fun z3 => ?_⟩
    · rw [if_pos (fun c => c.2.2 (by rw [Int.toNat_natCast]; exact z3))] at hK
      exact hK I (fun _ _ => rfl) hS0
    · rw [if_neg (fun c => c ⟨by omega, by omega, by rw [Int.toNat_natCast]; exact z3⟩)] at hK
      have ha : sA S tn = 1 := by rcases hO.1 tn t8 with h | h; exact absurd h z3; exact h
      obtain ⟨x3, x4, x5⟩ := x2 z3
      refine c_lfp r1 ?_
      intro v6 e6 i6
      rcases frp_in (sW S) with hf | ⟨p, hf, hp⟩
      · rw [hf] at e6
        subst e6
        rw [if_pos (Or.inl hf)] at hK
        refine ⟨fun _ => hK I (fun _ _ => rfl) hS0, fun z4 => absurd rfl z4⟩
      · rw [hf] at e6
        subst e6
        rw [hf] at hK
        rw [Int.toNat_natCast] at hK
        refine ⟨fun z4 => absurd z4 (by omega), fun _ => ⟨by omega, ?_⟩⟩
        rw [x3]
        refine ⟨fun z4 => ?_, fun z4 => ?_⟩
        · rw [if_neg (show ¬ ((p : Int) = -1 ∨ 200 ≤ (sR S tn).length) by omega)] at hK
          refine ⟨by omega, ?_⟩
          intro I2 e2
          refine ⟨by omega, ?_⟩
          intro I3 e3
          refine ⟨by omega, ?_⟩
          intro I4 e4
          refine ⟨by omega, ?_⟩
          intro I5 e5
          refine ⟨by omega, ?_⟩
          intro I6 e6
          have q6 : ∀ c, c ≠ 16 → I6 c = I c := fun c c6 => by rw [e6, wt_a _ _ _ _ c6, e5, wt_a _ _ _ _ c6, e4, wt_a _ _ _ _ c6, e3, wt_a _ _ _ _ c6, e2, wt_a _ _ _ _ c6]
          have m6 : imC I6 16 0 = some (a, b, c, d) := by
            have v4 : rd I6 16 4 = 1 := by rw [e6, rd_wt_s _ _ _ ⟨by omega, by omega⟩]
            have v0 : rd I6 16 0 = a := by rw [e6, rd_wt_k _ _ _ _ (by omega), e5, rd_wt_k _ _ _ _ (by omega), e4, rd_wt_k _ _ _ _ (by omega), e3, rd_wt_k _ _ _ _ (by omega), e2, rd_wt_s _ _ _ ia]
            have v1 : rd I6 16 1 = b := by rw [e6, rd_wt_k _ _ _ _ (by omega), e5, rd_wt_k _ _ _ _ (by omega), e4, rd_wt_k _ _ _ _ (by omega), e3, rd_wt_s _ _ _ ib]
            have v2 : rd I6 16 2 = c := by rw [e6, rd_wt_k _ _ _ _ (by omega), e5, rd_wt_k _ _ _ _ (by omega), e4, rd_wt_s _ _ _ ic]
            have v3 : rd I6 16 3 = d := by rw [e6, rd_wt_k _ _ _ _ (by omega), e5, rd_wt_s _ _ _ id]
            rw [imC_some (I := I6) (c := 16) (p := 0) (by show ¬ rd I6 16 4 = 0; rw [v4]; decide)]
            show some (rd I6 16 0, rd I6 16 1, rd I6 16 2, rd I6 16 3) = _
            rw [v0, v1, v2, v3]
          have S6 : RSC I6 S := rsc_of (fun c _ _ _ _ c6 => q6 c c6) hS0
          refine c_wouldClash t8 hp S6.1 hO.2.2 S6.2.2.1 (sok_k hO) m6 ?_
          intro I7 f7
          cases hc : clS (sX S) (wRow (sW S) p (some (a, b, c, d)) tn) p with
          | true =>
            rw [if_pos hc] at hK
            refine ⟨fun z5 => absurd z5 (by decide), fun _ => ?_⟩
            exact hK I7 (fun c hc => by rw [f7 c (by omega) (by omega) (by omega), q6 c (by omega)]) (rsc_of (fun c _ c9 c1 c2 _ => f7 c c9 c1 c2) S6)
          | false =>
            rw [if_neg (by rw [hc]; decide)] at hK
            refine ⟨fun _ => ?_, fun z5 => absurd rfl z5⟩
            refine c_write (m := some (a, b, c, d)) (rsc_of (fun c _ c9 c1 c2 _ => f7 c c9 c1 c2) S6) t8 hp ha (by omega) (by rw [imC_cg (f7 16 (by omega) (by omega) (by omega))]; exact m6) hO.2.1 ?_
            intro I8 g1 g2
            exact hK I8 (fun c hc => by rw [g1 c hc, f7 c (by omega) (by omega) (by omega), q6 c (by omega)]) g2
        · rw [if_pos (show ((p : Int) = -1 ∨ 200 ≤ (sR S tn).length) by omega)] at hK
          exact hK I (fun _ _ => rfl) hS0
