/-! THE REFERENCE: undoing -/
def sUp (Z : St) (t : Nat) (R : List Rc) (r : Rc) : St := ((sUn1 Z r).1, (sA Z, upN (sR Z) t R), (sUn1 Z r).2.2)
theorem txR_pop {I J : Mm} {t : Nat} {a : Int} {R : List Rc} {r : Rc} (h8 : rd J 218 t = rd I 218 t) (h9 : rd J 219 t = R.length) (h : ∀ c, 220 ≤ c → c ≤ 223 → J c = I c) (hx : TxR I t a (R ++ [r])) : TxR J t a R := ⟨by rw [h8]; exact hx.1, fun z => ⟨h9, by have := (hx.2 z).2.1; rw [List.length_append] at this; omega, fun j p m v hj => by
    have hl := (List.getElem?_eq_some_iff.mp hj).1
    refine rcR_eq (rd_of (h _ (by omega) (by omega)) _) (rd_of (h _ (by omega) (by omega)) _) (rd_of (h _ (by omega) (by omega)) _) (fun g _ => rd_of (h _ (by omega) (by omega)) _) ((hx.2 z).2.2 j p m v ?_)
    rw [List.getElem?_append_left hl]
    exact hj⟩⟩
set_option maxHeartbeats 4000000 in
theorem c_undoOne {I : Mm} {K : Mm → Prop} {Z : St} {t p fa : Nat} {R : List Rc} {m : Im} {v : Int} (hS : RSR I Z) (ht : t < 8) (ha : sA Z t = 1) (hR : sR Z t = R ++ [(p, m, v)]) (hX : ∀ i, i < 6 → tlOK (sX Z i)) (hK : ∀ J : Mm, LFr I J → RSR J (sUp Z t R (p, m, v)) → K J) : CallV 177 [.inr (3, 0, 0), .inl (fa, (t : Int))] I K := by
  refine callV_fl (as' := [.inr (3, 0, 0), .inl (1, (t : Int))]) rfl ?_
  obtain ⟨r1, r2, ⟨r0, r3⟩, r4, r5⟩ := hS
  have tx := r2 t ht
  obtain ⟨x1, x2, x3⟩ := tx.2 (by rw [ha]; decide)
  rw [hR, List.length_append] at x1 x2
  have x1 : rd I 219 t = ((R.length + 1 : Nat) : Int) := x1
  have x2 : R.length + 1 ≤ 200 := x2
  obtain ⟨q1, hp, q3, q4, q5⟩ := x3 R.length p m v (by rw [hR, List.getElem?_append_right (Nat.le_refl _), Nat.sub_self]; rfl)
  obtain ⟨w1, w2, w3, w4, w5⟩ := r1 p hp
  refine callV_of rfl (b_r_undoOne (inRn (by omega)) ?_)
  rw [Int.toNat_natCast, x1]
  refine ⟨by omega, by omega, fun I1 e1 => ⟨by omega, ?_⟩⟩
  have l1 : rd I1 219 t = (R.length : Int) := by rw [e1, rd_wt_s _ _ _ ⟨by omega, by omega⟩]; omega
  rw [l1]
  intro v2 ev2 _
  rw [wrn (200 * t + R.length) (by omega) (by omega)] at ev2
  subst ev2
  have c1 : ∀ c, c ≠ 219 → I1 c = I c := fun c hc => by rw [e1, wt_a _ _ _ _ hc]
  rw [Int.toNat_natCast, rd_of (c1 220 (by omega)), q1]
  refine ⟨by omega, fun v3 ev3 _ => ?_⟩
  subst ev3
  rw [Int.toNat_natCast]
  refine c_keepBefore hp (by rw [rd_of (c1 215 (by omega))]; exact w4) (by rw [rd_of (c1 216 (by omega))]; exact w5) ?_
  intro I2 k1 k2 k3 k4 k5 k6
  have c2 : ∀ c, c ≠ 212 → c ≠ 219 → c ≠ 255 → I2 c = I c := fun c h1 h2 h3 => by rw [k1 c h1 h3, c1 c h2]
  rw [rd_of (c2 221 (by omega) (by omega) (by omega))]
  refine ⟨by omega, by omega, q5, fun I3 e3 => ⟨by omega, by omega, fun I4 e4 => ?_⟩⟩
  have z3 : rd I3 223 (200 * t + R.length) = v := by rw [e3, rd_wt_a _ _ _ _ (by omega), rd_of (c2 223 (by omega) (by omega) (by omega)), q4]
  have iv : inR v := by rw [← q4]; exact rd_in _ _ _
  rw [z3] at e4
  have c4 : ∀ c, c ≠ 212 → c ≠ 216 → c ≠ 217 → c ≠ 219 → c ≠ 255 → I4 c = I c := fun c h1 h2 h3 h4 h5 => by rw [e4, wt_a _ _ _ _ h3, e3, wt_a _ _ _ _ h2, c2 c h1 h4 h5]
  have s4 : ∀ k, rd I4 212 k = rd I2 212 k := fun k => by rw [e4, rd_wt_a _ _ _ _ (by omega), e3, rd_wt_a _ _ _ _ (by omega)]
  have b4 : ∀ k, rd I4 255 k = rd I2 255 k := fun k => by rw [e4, rd_wt_a _ _ _ _ (by omega), e3, rd_wt_a _ _ _ _ (by omega)]
  have s2 : ∀ k, k ≠ 49 → k ≠ 50 → rd I4 212 k = rd I 212 k := fun k h1 h2 => by rw [s4, k2 k h1 h2, rd_of (c1 212 (by omega))]
  have loop : ∀ (d f : Nat) (J : Mm), f + d = 4 → (∀ c, c ≠ 214 → J c = I4 c) → (∀ x, (x < 4 * p ∨ 4 * p + 4 ≤ x) → rd J 214 x = rd I 214 x) → (∀ q, q < f → rd J 214 (4 * p + q) = rd I 222 (4 * (200 * t + R.length) + q)) → GoA 177 62 [some (.inr (3, 0, 0)), some (.inl (1, (t : Int))), some (.inl (1, ((200 * t + R.length : Nat) : Int))), some (.inl (1, (p : Int))), some (.inl (1, (f : Int)))] [] J (rV K) := by
    intro d
    induction d with
    | zero =>
      intro f J hf h1 h2 h3
      refine b_r_undoOne_62 (okO_s (okF_1 (inRn (by omega)) 1)) (inRn (by omega)) (inRn (by omega)) (inRn (by omega)) ⟨fun _ => ?_, fun z => absurd (by omega) z⟩
      have cJ : ∀ c, c ≠ 212 → c ≠ 214 → c ≠ 216 → c ≠ 217 → c ≠ 219 → c ≠ 255 → J c = I c := fun c a1 a2 a3 a4 a5 a6 => by rw [h1 c a2, c4 c a1 a3 a4 a5 a6]
      have v6 : rd J 216 p = rd I 221 (200 * t + R.length) := by rw [rd_of (h1 _ (by omega)), e4, rd_wt_a _ _ _ _ (by omega), e3, rd_wt_s _ _ _ (rd_in _ _ _)]
      have rowJ : RowR J (wRow (sW Z) p m v) := by
        refine rowR_up hp r1 (cJ _ (by omega) (by omega) (by omega) (by omega) (by omega) (by omega)) (cJ _ (by omega) (by omega) (by omega) (by omega) (by omega) (by omega)) (fun q hq => ?_) ?_ (fun q hq => ?_) (by rw [v6]; exact q5) h2 ?_
        · rw [rd_of (h1 _ (by omega)), e4, rd_wt_k _ _ _ _ hq, e3, rd_wt_a _ _ _ _ (by omega), rd_of (c2 _ (by omega) (by omega) (by omega))]
        · rw [rd_of (h1 _ (by omega)), e4, rd_wt_s _ _ _ iv]
        · rw [rd_of (h1 _ (by omega)), e4, rd_wt_a _ _ _ _ (by omega), e3, rd_wt_k _ _ _ _ hq, rd_of (c2 _ (by omega) (by omega) (by omega))]
        · rw [← q3]
          exact imG_cp v6 (fun g hg => h3 g (by omega))
      have ixJ : ∀ i, i < 6 → IxR J i (sX Z i) := fun i hi => ixR_cg (fun c b1 b2 => cJ c (by omega) (by omega) (by omega) (by omega) (by omega) (by omega)) (r3 i hi)
      have cnJ : cnOK J := cnOK_cg (cJ _ (by omega) (by omega) (by omega) (by omega) (by omega) (by omega)) r0
      have bJ0 : imB J 0 = (sW Z).1 p := by
        rw [← w1, ← imR_cg (c1 213 (by omega)) (c1 215 (by omega)) p, ← k3]
        exact imG_cp (by rw [rd_of (h1 _ (by omega)), s4]) (fun g _ => by rw [rd_of (h1 _ (by omega)), b4])
      have bJ1 : imB J 1 = (sW Z).2.1 p := by
        rw [← w2, ← imR_cg (c1 214 (by omega)) (c1 216 (by omega)) p, ← k4]
        exact imG_cp (by rw [rd_of (h1 _ (by omega)), s4]) (fun g _ => by rw [rd_of (h1 _ (by omega)), b4])
      refine c_changed (X := sX Z) hp rowJ cnJ ixJ hX (Or.inl ⟨bJ0, bJ1⟩) ?_
      intro J' fA cJ' hX'
      have jc : ∀ c, 213 ≤ c → c ≤ 223 → J' c = J c := fun c b1 b2 => fA.1 c (by omega)
      refine hK J' (fun c hc => by rw [fA.1 c (by omega), cJ c (by omega) (by omega) (by omega) (by omega) (by omega) (by omega)]) ⟨rowR_cg (fun c b1 b2 => jc c (by omega) (by omega)) rowJ, fun t' ht' => ?_, ⟨cJ', hX'⟩, bdR_cg ?_ ?_ r4, qsR_cg ?_ ?_ ?_ ?_ r5⟩
      · refine txR_cg (I := J) (fun c b1 b2 => jc c (by omega) (by omega)) ?_
        have z218 : ∀ q, rd J 218 q = rd I 218 q := fun q => rd_of (cJ _ (by omega) (by omega) (by omega) (by omega) (by omega) (by omega)) _
        have z219 : ∀ q, rd J 219 q = rd I1 219 q := fun q => by rw [rd_of (h1 _ (by omega)), e4, rd_wt_a _ _ _ _ (by omega), e3, rd_wt_a _ _ _ _ (by omega), rd_of (k1 _ (by omega) (by omega))]
        have zr : ∀ c, 220 ≤ c → c ≤ 223 → J c = I c := fun c b1 b2 => cJ c (by omega) (by omega) (by omega) (by omega) (by omega) (by omega)
        show TxR J t' (sA Z t') (upN (sR Z) t R t')
        by_cases c : t' = t
        · subst c
          rw [upN_s]
          rw [hR] at tx
          exact txR_pop (z218 _) (by rw [z219, l1]) zr tx
        · rw [upN_o c]
          exact txR_up c (z218 _) (by rw [z219, e1, rd_wt_k _ _ _ _ c]) (fun r hr => ⟨rd_of (zr _ (by omega) (by omega)) _, rd_of (zr _ (by omega) (by omega)) _, rd_of (zr _ (by omega) (by omega)) _, fun _ _ => rd_of (zr _ (by omega) (by omega)) _⟩) (r2 t' ht')
      · rw [fA.1 _ (by omega), cJ _ (by omega) (by omega) (by omega) (by omega) (by omega) (by omega)]
      · rw [fA.1 _ (by omega), cJ _ (by omega) (by omega) (by omega) (by omega) (by omega) (by omega)]
      · rw [fA.2 _ (by omega) (by omega) (by omega), rd_of (h1 _ (by omega)), s2 _ (by omega) (by omega)]
      · rw [fA.2 _ (by omega) (by omega) (by omega), rd_of (h1 _ (by omega)), s2 _ (by omega) (by omega)]
      · rw [fA.2 _ (by omega) (by omega) (by omega), rd_of (h1 _ (by omega)), s2 _ (by omega) (by omega)]
      · rw [fA.1 _ (by omega), cJ _ (by omega) (by omega) (by omega) (by omega) (by omega) (by omega)]
    | succ d ih =>
      intro f J hf h1 h2 h3
      refine b_r_undoOne_62 (okO_s (okF_1 (inRn (by omega)) 1)) (inRn (by omega)) (inRn (by omega)) (inRn (by omega)) ⟨fun z => absurd z (by omega), fun _ => ?_⟩
      have wv : wr (4 * ((200 * t + R.length : Nat) : Int) + (f : Int)) = ((4 * (200 * t + R.length) + f : Nat) : Int) := wrn (4 * (200 * t + R.length) + f) (by omega) (by omega)
      have wu : wr (4 * (p : Int) + (f : Int)) = ((4 * p + f : Nat) : Int) := wrn (4 * p + f) (by omega) (by omega)
      rw [wv, wu, Int.toNat_natCast, Int.toNat_natCast]
      refine ⟨by omega, by omega, fun L eL v ev _ => ?_⟩
      rw [wrn (f + 1) (by omega) (by omega)] at ev
      subst ev
      rw [rd_of (h1 222 (by omega)), rd_of (c4 222 (by omega) (by omega) (by omega) (by omega) (by omega))] at eL
      refine ih (f + 1) L (by omega) (fun c hc => by rw [eL, wt_a _ _ _ _ hc, h1 c hc]) (fun x hx => by rw [eL, rd_wt_k _ _ _ _ (by omega), h2 x hx]) (fun q hq => ?_)
      by_cases c : q = f
      · subst c; rw [eL, rd_wt_s _ _ _ (rd_in _ _ _)]
      · rw [eL, rd_wt_k _ _ _ _ (by omega), h3 q (by omega)]
  exact loop 4 0 I4 (by omega) (fun _ _ => rfl) (fun x _ => by rw [e4, rd_wt_a _ _ _ _ (by omega), e3, rd_wt_a _ _ _ _ (by omega), rd_of (c2 _ (by omega) (by omega) (by omega))]) (fun q hq => absurd hq (by omega))
theorem sUndo_up {S : St} {t n : Nat} {r : Rc} (hr : (sR S t)[n]? = some r) : sUp (sUndo S t (n + 1)) t ((sR S t).take n) r = sUndo S t n := by
  have hl := (List.getElem?_eq_some_iff.mp hr).1
  have e : ((sR S t).drop n).reverse = ((sR S t).drop (n + 1)).reverse ++ [r] := by
    rw [List.drop_eq_getElem_cons hl, List.reverse_cons]
    congr 2
    exact (List.getElem?_eq_some_iff.mp hr).2
  unfold sUndo
  rw [e, sUnL_app]
  obtain ⟨Y, hY⟩ : ∃ Y, Y = sUnL ((sR S t).drop (n + 1)).reverse S := ⟨_, rfl⟩
  rw [← hY]
  show ((sUn1 _ r).1, (sA S, upN (upN (sR S) t ((sR S t).take (n + 1))) t ((sR S t).take n)), _) = ((sUn1 Y r).1, (sA S, upN (sR S) t ((sR S t).take n)), (sUn1 Y r).2.2)
  have u : upN (upN (sR S) t ((sR S t).take (n + 1))) t ((sR S t).take n) = upN (sR S) t ((sR S t).take n) := by
    funext j
    by_cases c : j = t
    · subst c; rw [upN_s, upN_s]
    · rw [upN_o c, upN_o c, upN_o c]
  rw [u]
  rfl
theorem sUndo_all (S : St) (t : Nat) : sUndo S t (sR S t).length = S := by
  unfold sUndo
  rw [List.drop_length, List.take_length]
  show (S.1, (sA S, upN (sR S) t (sR S t)), S.2.2) = S
  have u : upN (sR S) t (sR S t) = sR S := by
    funext j
    by_cases c : j = t
    · subst c; rw [upN_s]
    · rw [upN_o c]
  rw [u]
  rfl
theorem c_rundoTo {I : Mm} {K : Int → Mm → Prop} {S : St} {t n fa fb : Nat} (hS : RSR I S) (ht : t < 8) (ha : sA S t = 1) (hn : n ≤ (sR S t).length) (hX : ∀ k i, i < 6 → tlOK (sX (sUnL ((sR S t).drop k).reverse S) i))
    (hK : ∀ J : Mm, LFr I J → RSR J (sUndo S t n) → K (((sR S t).length - n : Nat) : Int) J) : CallZ 179 [.inr (3, 0, 0), .inl (fa, (t : Int)), .inl (fb, (n : Int))] I K := by
  refine callZ_fl (as' := [.inr (3, 0, 0), .inl (1, (t : Int)), .inl (1, (n : Int))]) rfl ?_
  obtain ⟨x1, x2, x3⟩ := (hS.2.1 t ht).2 (by rw [ha]; decide)
  have loop : ∀ (d k : Nat) (J : Mm), k = n + d → k ≤ (sR S t).length → LFr I J → RSR J (sUndo S t k) → GoA 179 9 [some (.inr (3, 0, 0)), some (.inl (1, (t : Int))), some (.inl (1, (n : Int))), some (.inl (1, (((sR S t).length - n : Nat) : Int)))] [] J (rZ K) := by
    intro d
    induction d with
    | zero =>
      intro k J hk hl fJ hJ
      have ek : k = n := hk
      subst ek
      have sl : rd J 219 t = ((sR S t).take k).length := by
        have := ((hJ.2.1 t ht).2 (by show ¬ sA S t = 0; rw [ha]; decide)).1
        rw [this]
        show ((upN (sR S) t ((sR S t).take k) t).length : Int) = _
        rw [upN_s]
      rw [List.length_take] at sl
      refine b_r_undoTo_9 (inRn (by omega)) (inRn (by omega)) (inRn (by omega)) ?_
      rw [Int.toNat_natCast, sl]
      refine ⟨by omega, fun _ => hK J fJ hJ, fun z => absurd (by omega) z⟩
    | succ d ih =>
      intro k J hk hl fJ hJ
      obtain ⟨k', ek⟩ : ∃ k', k = k' + 1 := ⟨n + d, by omega⟩
      subst ek
      obtain ⟨⟨p, m, v⟩, hr⟩ : ∃ r, (sR S t)[k']? = some r := ⟨_, List.getElem?_eq_getElem (by omega)⟩
      have sl : rd J 219 t = ((sR S t).take (k' + 1)).length := by
        have := ((hJ.2.1 t ht).2 (by show ¬ sA S t = 0; rw [ha]; decide)).1
        rw [this]
        show ((upN (sR S) t ((sR S t).take (k' + 1)) t).length : Int) = _
        rw [upN_s]
      rw [List.length_take] at sl
      refine b_r_undoTo_9 (inRn (by omega)) (inRn (by omega)) (inRn (by omega)) ?_
      rw [Int.toNat_natCast, sl]
      refine ⟨by omega, fun z => absurd z (by omega), fun _ => ?_⟩
      refine c_undoOne (R := (sR S t).take k') (p := p) (m := m) (v := v) hJ ht ha ?_ (fun i hi => hX (k' + 1) i hi) ?_
      · show upN (sR S) t ((sR S t).take (k' + 1)) t = _
        rw [upN_s, List.take_add_one, hr]
        rfl
      · intro L fL hL
        rw [sUndo_up hr] at hL
        exact ih k' L (by omega) (by omega) (fun c hc => by rw [fL c hc, fJ c hc]) hL
  refine callZ_of rfl (b_r_undoTo (inRn (by omega)) (inRn (by omega)) ?_)
  rw [Int.toNat_natCast, x1]
  refine ⟨by omega, fun v ev _ => ?_⟩
  rw [wrn ((sR S t).length - n) (by omega) (by omega)] at ev
  subst ev
  exact loop ((sR S t).length - n) (sR S t).length I (by omega) (Nat.le_refl _) (fun _ _ => rfl) (by rw [sUndo_all]; exact hS)
