/-! UNDOING, COMMITTING, LOOKING FOR CLASHES, class -/
def sUn1 (S : St) (r : Rc) : St := (wRow (sW S) r.1 r.2.1 r.2.2, S.2.1, fun i => xTell (wRow (sW S) r.1 r.2.1 r.2.2) ((sW S).2.1 r.1) r.1 (sX S i), S.2.2.2)
def sUnL : List Rc → St → St
  | [], S => S
  | r :: L, S => sUnL L (sUn1 S r)
def sUndo (S : St) (t n : Nat) : St := ((sUnL ((sR S t).drop n).reverse S).1, (sA S, upN (sR S) t ((sR S t).take n)), (sUnL ((sR S t).drop n).reverse S).2.2)
theorem sUnL_app : ∀ (L M : List Rc) (S : St), sUnL (L ++ M) S = sUnL M (sUnL L S)
  | [], _, _ => rfl
  | _ :: L, M, S => sUnL_app L M _
theorem sUnL_rest : ∀ (L : List Rc) (S : St), (sUnL L S).2.1 = S.2.1 ∧ (sUnL L S).2.2.2 = S.2.2.2
  | [], _ => ⟨rfl, rfl⟩
  | r :: L, S => sUnL_rest L (sUn1 S r)
theorem isT_t {t : Nat} (h : t < 8) : isT (22 + 5 * t) := ⟨t, h, rfl⟩
set_option maxHeartbeats 4000000 in
theorem c_undoTo {I : Mm} {K : Int → Mm → Prop} {S : St} {t n fa fb : Nat} (hS : RSC I S) (ht : t < 8) (ha : sA S t = 1) (hn : n ≤ (sR S t).length) (hX : ∀ k i, i < 6 → tlOK (sX (sUnL (((sR S t).drop n).reverse.take k) S) i))
    (hK : ∀ I' : Mm, HFr I I' → RSC I' (sUndo S t n) → K (((sR S t).length - n : Nat) : Int) I') : CallZ 101 [.inr (0, 0, 0), .inl (fa, (t : Int)), .inl (fb, (n : Int))] I K := by
  obtain ⟨r1, r2, r3, r4, r5⟩ := hS
  obtain ⟨x1, x2⟩ := r2 t ht
  obtain ⟨x3, x4, x5⟩ := x2 (by omega)
  obtain ⟨L, hL⟩ : ∃ L, L = ((sR S t).drop n).reverse := ⟨_, rfl⟩
  have Ll : L.length = (sR S t).length - n := by rw [hL, List.length_reverse, List.length_drop]
  have Lg : ∀ k, k < L.length → L[k]? = (sR S t)[(sR S t).length - 1 - k]? := by
    intro k hk
    rw [hL, List.getElem?_reverse (by rw [List.length_drop]; omega), List.getElem?_drop, List.length_drop]
    congr 1
    omega
  rw [← hL] at hX
  have loop : ∀ (d k : Nat) (J : Mm) (m6 : Option AV), okO m6 → k + d = L.length → (∀ c, (c < 62 ∨ 212 ≤ c) → c ≠ 5 → c ≠ 6 → c ≠ 18 → J c = I c) → RowC J 1 (sW (sUnL (L.take k) S)) → (∀ i, i < 6 → IxC J (62 + 25 * i) (sX (sUnL (L.take k) S) i)) → GoA 101 23 [some (.inr (0, 0, 0)), some (.inl (1, (t : Int))), some (.inl (1, (n : Int))), some (.inr (1, 22 + 5 * t, 0)), some (.inl (1, ((L.length : Nat) : Int))), some (.inl (1, ((sR S t).length : Int) - 1 - (k : Int))), m6] [] J (rZ K) := by
    intro d
    induction d with
    | zero =>
      intro k J m6 o6 hk f1 f2 f3
      refine b_c_undoTo_23 (isT_t ht) (okO_s (okF_1 (inRn (by omega)) 1)) (inRn (by omega)) (inRn (by omega)) ⟨by omega, by omega⟩ o6 ⟨fun _ => ?_, fun z => absurd (by omega) z⟩
      intro I1 e1
      have kL : L.take k = L := by rw [show k = L.length by omega, List.take_length]
      rw [kL] at f2 f3
      have rest := sUnL_rest L S
      rw [Ll]
      refine hK I1 (fun c hc => by rw [e1, wt_a _ _ _ _ (by omega), f1 c (by omega) (by omega) (by omega) (by omega)]) ⟨?_, fun t' ht' => ?_, fun i hi => ?_, ?_, ?_⟩
      · show RowC I1 1 (sUnL ((sR S t).drop n).reverse S).1
        rw [← hL]
        exact rowC_cg (by rw [e1, wt_a _ _ _ _ (by omega)]) (by rw [e1, wt_a _ _ _ _ (by omega)]) (by rw [e1, wt_a _ _ _ _ (by omega)]) f2
      · show TxC I1 t' (sA S t') (upN (sR S) t ((sR S t).take n) t')
        by_cases c : t' = t
        · subst c
          rw [upN_s]
          refine ⟨by rw [e1, rd_wt_k _ _ _ _ (by omega), rd_of (f1 _ (by omega) (by omega) (by omega) (by omega))]; exact x1, fun _ => ⟨by rw [e1, rd_wt_s _ _ _ (inRn (by omega)), List.length_take, Nat.min_eq_left hn], by rw [List.length_take]; omega, fun j p m v hj => ?_⟩⟩
          have jn : j < n := by
            have := (List.getElem?_eq_some_iff.mp hj).1
            rw [List.length_take] at this
            omega
          rw [List.getElem?_take_of_lt jn] at hj
          have q : ∀ c, 22 + 5 * t' + 1 ≤ c → c ≤ 22 + 5 * t' + 4 → I1 c = I c := fun c h1 h2 => by rw [e1, wt_a _ _ _ _ (by omega), f1 c (by omega) (by omega) (by omega) (by omega)]
          obtain ⟨y1, y2, y3, y4⟩ := x5 j p m v hj
          exact ⟨by rw [rd_of (q _ (by omega) (by omega))]; exact y1, y2, by rw [rd_of (q _ (by omega) (by omega))]; exact y3, by rw [imC_cg (q _ (by omega) (by omega))]; exact y4⟩
        · rw [upN_o c]
          exact txC_cg (fun c' h1 h2 => by rw [e1, wt_a _ _ _ _ (by omega), f1 c' (by omega) (by omega) (by omega) (by omega)]) (r2 t' ht')
      · show IxC I1 (62 + 25 * i) ((sUnL ((sR S t).drop n).reverse S).2.2.1 i)
        rw [← hL]
        exact ixC_fr (fun c c1 c2 => by rw [e1, wt_a _ _ _ _ (by omega)]) (f3 i hi)
      · show BdC I1 (sUnL ((sR S t).drop n).reverse S).2.2.2.1.1 (sUnL ((sR S t).drop n).reverse S).2.2.2.1.2
        rw [← hL, rest.2]
        exact bdC_cg (by rw [e1, wt_a _ _ _ _ (by omega), f1 _ (by omega) (by omega) (by omega) (by omega)]) (by rw [e1, wt_a _ _ _ _ (by omega), f1 _ (by omega) (by omega) (by omega) (by omega)]) r4
      · show QsC I1 (sUnL ((sR S t).drop n).reverse S).2.2.2.2
        rw [← hL, rest.2]
        exact qsC_cg (by rw [e1, wt_a _ _ _ _ (by omega), f1 _ (by omega) (by omega) (by omega) (by omega)]) (by rw [e1, wt_a _ _ _ _ (by omega), f1 _ (by omega) (by omega) (by omega) (by omega)]) r5
    | succ d ih =>
      intro k J m6 o6 hk f1 f2 f3
      obtain ⟨rr, hrr⟩ : ∃ rr, rr = (sR S t).length - 1 - k := ⟨_, rfl⟩
      have er : ((sR S t).length : Int) - 1 - (k : Int) = (rr : Int) := by omega
      obtain ⟨r, hr⟩ : ∃ r, (sR S t)[rr]? = some r := ⟨_, List.getElem?_eq_getElem (by omega)⟩
      obtain ⟨p, m, v⟩ := r
      obtain ⟨y1, y2, y3, y4⟩ := x5 rr p m v hr
      have q : ∀ c, 22 + 5 * t ≤ c → c ≤ 22 + 5 * t + 4 → J c = I c := fun c h1 h2 => f1 c (by omega) (by omega) (by omega) (by omega)
      have wp : wr ((p : Int) * 5) = ((5 * p : Nat) : Int) := wrn _ (by omega) (by omega)
      have wrr : wr ((rr : Int) * 5) = ((5 * rr : Nat) : Int) := wrn _ (by omega) (by omega)
      rw [er]
      refine b_c_undoTo_23 (isT_t ht) (okO_s (okF_1 (inRn (by omega)) 1)) (inRn (by omega)) (inRn (by omega)) (inRn (by omega)) o6 ⟨fun z => absurd z (by omega), fun _ => ⟨by omega, ?_⟩⟩
      intro v6 e6 i6
      rw [Int.toNat_natCast, rd_of (q _ (by omega) (by omega)), y1] at e6
      subst e6
      rw [wp, wrr, Int.toNat_natCast, Int.toNat_natCast, Int.toNat_natCast]
      refine ⟨by omega, ?_⟩
      intro I2 e2
      have c2 := imC_cp (I := J) (J := I2) (a := 5) (b := 18) (p := p) (q := 0) (n := 0) e2 (by omega)
      refine ⟨by omega, ?_⟩
      intro v3 e3 i3
      rw [rd_of (c2.2.2 _ (by omega)), rd_of (q _ (by omega) (by omega)), y1] at e3
      subst e3
      rw [wp, Int.toNat_natCast]
      refine ⟨by omega, ?_⟩
      intro I3 e3
      have c3 := imC_cp (I := I2) (J := I3) (a := 22 + 5 * t + 4) (b := 5) (p := rr) (q := p) (n := 0) e3 (by omega)
      have v2 : rd I3 (22 + 5 * t + 2) rr = v := by rw [rd_of (c3.2.2 _ (by omega)), rd_of (c2.2.2 _ (by omega)), rd_of (q _ (by omega) (by omega)), y3]
      rw [v2, Int.toNat_natCast]
      refine ⟨by omega, by omega, ?_⟩
      intro I4 e4
      have lk : L.take (k + 1) = L.take k ++ [(p, m, v)] := by rw [List.take_add_one, Lg k (by omega), ← hrr, hr]; rfl
      have st : sUnL (L.take (k + 1)) S = sUn1 (sUnL (L.take k) S) (p, m, v) := by rw [lk, sUnL_app]; rfl
      have q4 : ∀ c, c ≠ 5 → c ≠ 6 → c ≠ 18 → I4 c = J c := fun c k5 k6 k18 => by rw [e4, wt_a _ _ _ _ k6, c3.2.2 c k5, c2.2.2 c k18]
      have row4 : RowC I4 1 (wRow (sW (sUnL (L.take k) S)) p m v) := by
        intro q' hq'
        refine ⟨?_, ?_, ?_⟩
        · rw [imC_cg (show I4 (1 + 2) = J (1 + 2) from q4 _ (by omega) (by omega) (by omega))]
          exact (f2 q' hq').1
        · rw [imC_cg (show I4 (1 + 4) = I3 (1 + 4) by rw [e4, wt_a _ _ _ _ (by omega)])]
          show imC I3 5 q' = upN (sW (sUnL (L.take k) S)).2.1 p m q'
          by_cases c : q' = p
          · subst c
            rw [c3.1, upN_s, imC_cg (c2.2.2 _ (by omega)), imC_cg (q _ (by omega) (by omega)), y4]
          · rw [c3.2.1 q' c, upN_o c, imC_cg (c2.2.2 5 (by omega))]
            exact (f2 q' hq').2.1
        · show rd I4 6 q' = upN (sW (sUnL (L.take k) S)).2.2 p v q'
          by_cases c : q' = p
          · subst c
            rw [e4, rd_wt_s _ _ _ (by rw [← y3]; exact rd_in _ _ _), upN_s]
          · rw [e4, rd_wt_k _ _ _ _ c, upN_o c, rd_of (c3.2.2 6 (by omega)), rd_of (c2.2.2 6 (by omega))]
            exact (f2 q' hq').2.2
      have rep4 : imC I4 18 0 = (sW (sUnL (L.take k) S)).2.1 p := by
        rw [imC_cg (show I4 18 = I2 18 by rw [e4, wt_a _ _ _ _ (by omega), c3.2.2 _ (by omega)]), c2.1]
        exact (f2 p y2).2.1
      refine c_tell y2 row4 rep4 (fun i hi => ixC_fr (fun c c1 c2 => q4 c (by omega) (by omega) (by omega)) (f3 i hi)) (fun i hi => hX k i hi) ?_
      intro I5 g1 g2 v5 e5 _
      have ev : v5 = ((sR S t).length : Int) - 1 - ((k + 1 : Nat) : Int) := by rw [e5, wrx (by omega) (by omega)]; omega
      subst ev
      refine ih (k + 1) I5 _ (okO_s (okF_1 i6 1)) (by omega) (fun c hc k5 k6 k18 => by rw [g1 c hc, q4 c k5 k6 k18, f1 c hc k5 k6 k18]) ?_ ?_
      · rw [st]
        exact rowC_cg (g1 _ (by omega)) (g1 _ (by omega)) (g1 _ (by omega)) row4
      · rw [st]
        exact g2
  refine callZ_fl (as' := [.inr (0, 0, 0), .inl (1, (t : Int)), .inl (1, (n : Int))]) rfl ?_
  refine callZ_of rfl (b_c_undoTo (inRn (by omega)) (inRn (by omega)) ?_)
  rw [Int.toNat_natCast, x3]
  refine ⟨by omega, ?_⟩
  intro v4 e4 _ v5 e5 _
  rw [wrn (L.length) (by omega) (by omega)] at e4
  rw [wrx (by omega) (by omega)] at e5
  subst e4; subst e5
  have := loop L.length 0 I none okO_n (by omega) (fun _ _ _ _ _ => rfl) r1 r3
  rw [show ((sR S t).length : Int) - 1 - ((0 : Nat) : Int) = ((sR S t).length : Int) - 1 by omega] at this
  exact this
/-- a place is committed -/
def sCm1 (S : St) (p : Nat) : St := ((upN (sW S).1 p ((sW S).2.1 p), (sW S).2.1, upN (sW S).2.2 p (-1)), S.2.1, fun i => xTell (upN (sW S).1 p ((sW S).2.1 p), (sW S).2.1, upN (sW S).2.2 p (-1)) ((sW S).1 p) p (sX S i), S.2.2.2)
def sCmL (t : Nat) : Nat → Nat → St → St
  | 0, _, S => S
  | d + 1, p, S => sCmL t d (p + 1) (if (sW S).2.2 p = t then sCm1 S p else S)
def cCmL (t : Nat) : Nat → Nat → St → Nat
  | 0, _, _ => 0
  | d + 1, p, S => (if (sW S).2.2 p = t then 1 else 0) + cCmL t d (p + 1) (if (sW S).2.2 p = t then sCm1 S p else S)
theorem cCmL_le (t : Nat) : ∀ d p S, cCmL t d p S ≤ d
  | 0, _, _ => Nat.le_refl _
  | d + 1, p, S => by
    show (if (sW S).2.2 p = t then 1 else 0) + cCmL t d (p + 1) (if (sW S).2.2 p = t then sCm1 S p else S) ≤ d + 1
    have := cCmL_le t d (p + 1) (if (sW S).2.2 p = t then sCm1 S p else S)
    have h1 : (if (sW S).2.2 p = (t : Int) then 1 else 0) ≤ 1 := by split <;> omega
    omega
theorem sCmL_app (t : Nat) : ∀ (a b p : Nat) (S : St), sCmL t (a + b) p S = sCmL t b (p + a) (sCmL t a p S)
  | 0, b, p, S => by rw [Nat.zero_add]; rfl
  | a + 1, b, p, S => by
    rw [show a + 1 + b = (a + b) + 1 by omega]
    show sCmL t (a + b) (p + 1) _ = sCmL t b (p + (a + 1)) (sCmL t a (p + 1) _)
    rw [sCmL_app t a b (p + 1), show p + 1 + a = p + (a + 1) by omega]
theorem sCmL_rest (t : Nat) : ∀ (d p : Nat) (S : St), (sCmL t d p S).2.1 = S.2.1 ∧ (sCmL t d p S).2.2.2 = S.2.2.2
  | 0, _, _ => ⟨rfl, rfl⟩
  | d + 1, p, S => by
    have := sCmL_rest t d (p + 1) (if (sW S).2.2 p = t then sCm1 S p else S)
    show (sCmL t d (p + 1) _).2.1 = _ ∧ _
    rw [this.1]
    refine ⟨?_, this.2.trans ?_⟩ <;> (split <;> rfl)
def sEnd (Z S : St) (t : Nat) : St := (Z.1, (upN (sA S) t 0, sR S), Z.2.2)
def sCommit (S : St) (t : Nat) : St := sEnd (sCmL t 320 0 S) S t
set_option maxHeartbeats 4000000 in
theorem c_commit {I : Mm} {K : Int → Mm → Prop} {S : St} {t fa : Nat} (hS : RSC I S) (ht : t < 8) (ha : sA S t = 1) (hX : ∀ k i, k ≤ 320 → i < 6 → tlOK (sX (sCmL t k 0 S) i))
    (hK : ∀ I' : Mm, HFr I I' → RSC I' (sCommit S t) → K ((cCmL t 320 0 S : Nat) : Int) I') : CallZ 92 [.inr (0, 0, 0), .inl (fa, (t : Int))] I K := by
  obtain ⟨r1, r2, r3, r4, r5⟩ := hS
  obtain ⟨x1, x2⟩ := r2 t ht
  have loop : ∀ (d p n : Nat) (J : Mm) (Sp : St), p + d = 320 → Sp = sCmL t p 0 S → n + cCmL t d p Sp = cCmL t 320 0 S → (∀ c, (c < 62 ∨ 212 ≤ c) → c ≠ 3 → c ≠ 6 → c ≠ 18 → J c = I c) → RowC J 1 (sW Sp) → (∀ i, i < 6 → IxC J (62 + 25 * i) (sX Sp i)) → GoA 92 15 [some (.inr (0, 0, 0)), some (.inl (1, (t : Int))), some (.inl (1, (n : Int))), some (.inl (1, (p : Int)))] [] J (rZ K) := by
    intro d
    induction d with
    | zero =>
      intro p n J Sp hp hSp hn f1 f2 f3
      have c320 := cCmL_le t 320 0 S
      have hn' : n = cCmL t 320 0 S := hn
      have p3 : p = 320 := by omega
      subst p3
      refine b_c_commit_15 (inRn (by omega)) (inRn (by omega)) (inRn (by omega)) ⟨fun _ => ⟨by omega, ?_⟩, fun z => absurd (by omega) z⟩
      rw [Int.toNat_natCast]
      intro I1 e1
      have rest := sCmL_rest t 320 0 S
      rw [← hSp] at rest
      rw [hn']
      have hK1 := hK I1 (fun c hc => by rw [e1, wt_a _ _ _ _ (by omega), f1 c (by omega) (by omega) (by omega) (by omega)])
      unfold sCommit at hK1
      rw [← hSp] at hK1
      refine hK1 ⟨?_, fun t' ht' => ?_, fun i hi => ?_, ?_, ?_⟩
      · show RowC I1 1 Sp.1
        exact rowC_cg (by rw [e1, wt_a _ _ _ _ (by omega)]) (by rw [e1, wt_a _ _ _ _ (by omega)]) (by rw [e1, wt_a _ _ _ _ (by omega)]) f2
      · show TxC I1 t' (upN (sA S) t 0 t') (sR S t')
        by_cases c : t' = t
        · subst c
          rw [upN_s]
          exact ⟨by rw [e1, rd_wt_s _ _ _ ⟨by omega, by omega⟩], fun z => absurd rfl z⟩
        · rw [upN_o c]
          exact txC_cg (fun c' h1 h2 => by rw [e1, wt_a _ _ _ _ (by omega), f1 c' (by omega) (by omega) (by omega) (by omega)]) (r2 t' ht')
      · show IxC I1 (62 + 25 * i) (Sp.2.2.1 i)
        exact ixC_fr (fun c c1 c2 => by rw [e1, wt_a _ _ _ _ (by omega)]) (f3 i hi)
      · show BdC I1 Sp.2.2.2.1.1 Sp.2.2.2.1.2
        rw [rest.2]
        exact bdC_cg (by rw [e1, wt_a _ _ _ _ (by omega), f1 _ (by omega) (by omega) (by omega) (by omega)]) (by rw [e1, wt_a _ _ _ _ (by omega), f1 _ (by omega) (by omega) (by omega) (by omega)]) r4
      · show QsC I1 Sp.2.2.2.2
        rw [rest.2]
        exact qsC_cg (by rw [e1, wt_a _ _ _ _ (by omega), f1 _ (by omega) (by omega) (by omega) (by omega)]) (by rw [e1, wt_a _ _ _ _ (by omega), f1 _ (by omega) (by omega) (by omega) (by omega)]) r5
    | succ d ih =>
      intro p n J Sp hp hSp hn f1 f2 f3
      have c320 := cCmL_le t 320 0 S
      have hn : n + ((if (sW Sp).2.2 p = t then 1 else 0) + cCmL t d (p + 1) (if (sW Sp).2.2 p = t then sCm1 Sp p else Sp)) = cCmL t 320 0 S := hn
      have nx : sCmL t (p + 1) 0 S = (if (sW Sp).2.2 p = t then sCm1 Sp p else Sp) := by
        rw [sCmL_app t p 1 0 S, ← hSp, Nat.zero_add]
        rfl
      have wv : rd J 6 p = (sW Sp).2.2 p := (f2 p (by omega)).2.2
      have wp : wr ((p : Int) * 5) = ((5 * p : Nat) : Int) := wrn _ (by omega) (by omega)
      refine b_c_commit_15 (inRn (by omega)) (inRn (by omega)) (inRn (by omega)) ⟨fun z => absurd z (by omega), fun _ => ⟨by omega, ?_⟩⟩
      rw [Int.toNat_natCast, wv, wp, Int.toNat_natCast]
      refine ⟨fun z => ⟨by omega, ?_⟩, fun z => ?_⟩
      · rw [if_pos z, if_pos z] at hn
        rw [if_pos z] at nx
        intro I2 e2
        have c2 := imC_cp (I := J) (J := I2) (a := 3) (b := 18) (p := p) (q := 0) (n := 0) e2 (by omega)
        refine ⟨by omega, ?_⟩
        intro I3 e3
        have c3 := imC_cp (I := I2) (J := I3) (a := 5) (b := 3) (p := p) (q := p) (n := 0) e3 (by omega)
        refine ⟨by omega, ?_⟩
        intro I4 e4
        have q4 : ∀ c, c ≠ 3 → c ≠ 6 → c ≠ 18 → I4 c = J c := fun c k3 k6 k18 => by rw [e4, wt_a _ _ _ _ k6, c3.2.2 c k3, c2.2.2 c k18]
        have row4 : RowC I4 1 (upN (sW Sp).1 p ((sW Sp).2.1 p), (sW Sp).2.1, upN (sW Sp).2.2 p (-1)) := by
          intro q' hq'
          refine ⟨?_, ?_, ?_⟩
          · rw [imC_cg (show I4 (1 + 2) = I3 (1 + 2) by rw [e4, wt_a _ _ _ _ (by omega)])]
            show imC I3 3 q' = upN (sW Sp).1 p ((sW Sp).2.1 p) q'
            by_cases c : q' = p
            · subst c
              rw [c3.1, upN_s, imC_cg (c2.2.2 5 (by omega))]
              exact (f2 q' hq').2.1
            · rw [c3.2.1 q' c, upN_o c, imC_cg (c2.2.2 3 (by omega))]
              exact (f2 q' hq').1
          · rw [imC_cg (show I4 (1 + 4) = J (1 + 4) from q4 _ (by omega) (by omega) (by omega))]
            exact (f2 q' hq').2.1
          · show rd I4 6 q' = upN (sW Sp).2.2 p (-1) q'
            by_cases c : q' = p
            · subst c
              rw [e4, rd_wt_s _ _ _ ⟨by omega, by omega⟩, upN_s]
            · rw [e4, rd_wt_k _ _ _ _ c, upN_o c, rd_of (c3.2.2 6 (by omega)), rd_of (c2.2.2 6 (by omega))]
              exact (f2 q' hq').2.2
        have rep4 : imC I4 18 0 = (sW Sp).1 p := by
          rw [imC_cg (show I4 18 = I2 18 by rw [e4, wt_a _ _ _ _ (by omega), c3.2.2 _ (by omega)]), c2.1]
          exact (f2 p (by omega)).1
        refine c_tell (by omega) row4 rep4 (fun i hi => ixC_fr (fun c c1 c2 => q4 c (by omega) (by omega) (by omega)) (f3 i hi)) (fun i hi => by rw [hSp]; exact hX p i (by omega) hi) ?_
        intro I5 g1 g2 v2 e2' _ v3 e3' _
        rw [wrn (n + 1) (by omega) (by omega)] at e2'
        rw [wrn (p + 1) (by omega) (by omega)] at e3'
        subst e2'; subst e3'
        refine ih (p + 1) (n + 1) I5 (sCm1 Sp p) (by omega) nx.symm (by omega) (fun c hc k3 k6 k18 => by rw [g1 c hc, q4 c k3 k6 k18, f1 c hc k3 k6 k18]) ?_ g2
        exact rowC_cg (g1 _ (by omega)) (g1 _ (by omega)) (g1 _ (by omega)) row4
      · rw [if_neg z, if_neg z] at hn
        rw [if_neg z] at nx
        intro v3 e3' _
        rw [wrn (p + 1) (by omega) (by omega)] at e3'
        subst e3'
        exact ih (p + 1) n J Sp (by omega) nx.symm (by omega) f1 f2 f3
  refine callZ_fl (as' := [.inr (0, 0, 0), .inl (1, (t : Int))]) rfl ?_
  refine callZ_of rfl (b_c_commit (inRn (by omega)) ⟨fun z => absurd z (by omega), fun _ => ⟨fun z => absurd z (by omega), fun _ => ⟨by omega, ?_⟩⟩⟩)
  rw [Int.toNat_natCast, x1, ha]
  refine ⟨fun z => absurd z (by decide), fun _ => ?_⟩
  exact loop 320 0 0 I S (by omega) rfl (by omega) (fun _ _ _ _ _ => rfl) r1 r3
def anyN (f : Nat → Bool) : Nat → Nat → Bool
  | 0, _ => false
  | d + 1, k => f k || anyN f d (k + 1)
theorem anyN_no {f : Nat → Bool} : ∀ {d k : Nat}, (∀ j, k ≤ j → j < k + d → f j = false) → anyN f d k = false
  | 0, _, _ => rfl
  | d + 1, k, h => by
    show (f k || anyN f d (k + 1)) = false
    rw [h k (Nat.le_refl _) (by omega), Bool.false_or]
    exact anyN_no (fun j h1 h2 => h j (by omega) (by omega))
theorem anyN_yes {f : Nat → Bool} : ∀ {d k j : Nat}, k ≤ j → j < k + d → f j = true → anyN f d k = true
  | 0, k, j, h1, h2, _ => by omega
  | d + 1, k, j, h1, h2, h => by
    show (f k || anyN f d (k + 1)) = true
    by_cases c : j = k
    · subst c; rw [h, Bool.true_or]
    · rw [anyN_yes (j := j) (by omega) (by omega) h, Bool.or_true]
/-- an index that forbids clashes -/
def gd (x : Ix) : Bool := decide (¬ xU x = 0 ∧ ¬ xQ x = 0 ∧ xS x = 4)
def clS (X : Nat → Ix) (w : Rw) (p : Nat) : Bool := anyN (fun i => gd (X i) && decide (clOf (xK (X i)) w p ≠ -1)) 6 0
def hasG (X : Nat → Ix) : Bool := anyN (fun i => gd (X i)) 6 0
theorem clS_no {X : Nat → Ix} {w : Rw} {p : Nat} (h : hasG X = false) : clS X w p = false := by
  refine anyN_no (fun i h1 h2 => ?_)
  cases hc : gd (X i) with
  | false => rfl
  | true =>
    have : hasG X = true := anyN_yes (j := i) (by omega) (by omega) hc
    rw [this] at h
    cases h
theorem c_hasGuard {I : Mm} {K : Int → Mm → Prop} {X : Nat → Ix} (hX : ∀ i, i < 6 → IxC I (62 + 25 * i) (X i)) (h : K (b01 (hasG X)) I) : CallZ 105 [.inr (0, 0, 0)] I K := by
  have loop : ∀ (d i : Nat), i + d = 6 → K (b01 (anyN (fun i => gd (X i)) d i)) I → GoA 105 2 [some (.inr (0, 0, 0)), some (.inl (1, (i : Int)))] [] I (rZ K) := by
    intro d
    induction d with
    | zero =>
      intro i hi hh
      exact b_c_hasGuard_2 (inRn (by omega)) ⟨fun _ => hh, fun z => absurd (by omega) z⟩
    | succ d ih =>
      intro i hi hh
      have hh : K (b01 (gd (X i) || anyN (fun i => gd (X i)) d (i + 1))) I := hh
      have hx := hX i (by omega)
      have nxt : gd (X i) = false → ∀ v1, v1 = wr ((i : Int) + 1) → inR v1 → GoA 105 2 [some (.inr (0, 0, 0)), some (.inl (1, v1))] [] I (rZ K) := by
        intro hg v1 e1 _
        rw [wrn (i + 1) (by omega) (by omega)] at e1
        subst e1
        rw [hg, Bool.false_or] at hh
        exact ih (i + 1) (by omega) hh
      refine b_c_hasGuard_2 (inRn (by omega)) ⟨fun z => absurd z (by omega), fun _ => ⟨by omega, ?_⟩⟩
      rw [Int.toNat_natCast, hx.1]
      refine ⟨fun z => nxt (decide_eq_false (fun c => c.1 z)), fun z => ?_⟩
      obtain ⟨b1, b2, b3, b4, b5⟩ := hx.2.2 z
      rw [b1, b4.1]
      refine ⟨fun z2 => nxt (decide_eq_false (fun c => c.2.1 z2)), fun z2 => ⟨fun z3 => ?_, fun z3 => nxt (decide_eq_false (fun c => z3 c.2.2))⟩⟩
      rw [show gd (X i) = true from decide_eq_true ⟨z, z2, z3⟩, Bool.true_or] at hh
      exact hh
  exact callZ_of rfl (b_c_hasGuard (loop 6 0 (by omega) h))
theorem c_clashesIn {I : Mm} {K : Int → Mm → Prop} {X : Nat → Ix} {R p fa : Nat} {w : Rw} (hR : isW R) (hp : p < 320) (hw : RowC I R w) (hN : wOK w) (hX : ∀ i, i < 6 → IxC I (62 + 25 * i) (X i)) (hk : ∀ i, i < 6 → ¬ xU (X i) = 0 → kyOK (xK (X i))) (h : K (b01 (clS X w p)) I) : CallZ 106 [.inr (0, 0, 0), .inr (6, R, 0), .inl (fa, (p : Int))] I K := by
  have loop : ∀ (d i : Nat), i + d = 6 → K (b01 (anyN (fun i => gd (X i) && decide (clOf (xK (X i)) w p ≠ -1)) d i)) I → GoA 106 2 [some (.inr (0, 0, 0)), some (.inr (6, R, 0)), some (.inl (1, (p : Int))), some (.inl (1, (i : Int)))] [] I (rZ K) := by
    intro d
    induction d with
    | zero =>
      intro i hi hh
      exact b_c_clashesIn_2 hR (inRn (by omega)) (inRn (by omega)) ⟨fun _ => hh, fun z => absurd (by omega) z⟩
    | succ d ih =>
      intro i hi hh
      have hh : K (b01 ((gd (X i) && decide (clOf (xK (X i)) w p ≠ -1)) || anyN (fun i => gd (X i) && decide (clOf (xK (X i)) w p ≠ -1)) d (i + 1))) I := hh
      have hx := hX i (by omega)
      have nxt : (gd (X i) && decide (clOf (xK (X i)) w p ≠ -1)) = false → ∀ v1, v1 = wr ((i : Int) + 1) → inR v1 → GoA 106 2 [some (.inr (0, 0, 0)), some (.inr (6, R, 0)), some (.inl (1, (p : Int))), some (.inl (1, v1))] [] I (rZ K) := by
        intro hg v1 e1 _
        rw [wrn (i + 1) (by omega) (by omega)] at e1
        subst e1
        rw [hg, Bool.false_or] at hh
        exact ih (i + 1) (by omega) hh
      have gno : ¬ (¬ xU (X i) = 0 ∧ ¬ xQ (X i) = 0 ∧ xS (X i) = 4) → (gd (X i) && decide (clOf (xK (X i)) w p ≠ -1)) = false := fun c => by
        rw [show gd (X i) = false from decide_eq_false c, Bool.false_and]
      refine b_c_clashesIn_2 hR (inRn (by omega)) (inRn (by omega)) ⟨fun z => absurd z (by omega), fun _ => ⟨by omega, ?_⟩⟩
      rw [Int.toNat_natCast, hx.1]
      refine ⟨fun z => nxt (gno (fun c => c.1 z)), fun z => ?_⟩
      obtain ⟨b1, b2, b3, b4, b5⟩ := hx.2.2 z
      rw [b1, b4.1]
      refine ⟨fun z2 => nxt (gno (fun c => c.2.1 z2)), fun z2 => ⟨fun z3 => ⟨by omega, ?_⟩, fun z3 => nxt (gno (fun c => z3 c.2.2))⟩⟩
      have gy : gd (X i) = true := decide_eq_true ⟨z, z2, z3⟩
      refine c_lcw (isX_i (by omega)) hR (hk i (by omega) z) b2 hw hN hp ⟨fun c => ?_, fun c => ?_⟩
      · refine nxt ?_
        rw [decide_eq_false (fun d => d c), Bool.and_false]
      · rw [gy, decide_eq_true c] at hh
        exact hh
  refine callZ_fl (as' := [.inr (0, 0, 0), .inr (6, R, 0), .inl (1, (p : Int))]) rfl ?_
  exact callZ_of rfl (b_c_clashesIn hR (inRn (by omega)) (loop 6 0 (by omega) h))
