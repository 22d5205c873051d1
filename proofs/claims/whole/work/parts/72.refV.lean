/-! THE REFERENCE: a write -/
def oWr (S : St) (t p : Nat) (m : Im) : Int × St := if 200 ≤ (sR S t).length then (-104, S) else if m.isSome = true ∧ clS (sX S) (wRow (sW S) p m t) p = true then (-105, S) else (1, sWrite S t p m)
theorem txR_up {I J : Mm} {t t' : Nat} {a : Int} {R : List Rc} (hne : t' ≠ t) (h8 : rd J 218 t' = rd I 218 t') (h9 : rd J 219 t' = rd I 219 t') (h : ∀ r, (r < 200 * t ∨ 200 * t + 200 ≤ r) → rd J 220 r = rd I 220 r ∧ rd J 221 r = rd I 221 r ∧ rd J 223 r = rd I 223 r ∧ ∀ g, g < 4 → rd J 222 (4 * r + g) = rd I 222 (4 * r + g)) (hx : TxR I t' a R) : TxR J t' a R := ⟨by rw [h8]; exact hx.1, fun z => ⟨by rw [h9]; exact (hx.2 z).1, (hx.2 z).2.1, fun j p m v hj => by
    have hl := (List.getElem?_eq_some_iff.mp hj).1
    have h2 := (hx.2 z).2.1
    obtain ⟨a, b, c, d⟩ := h (200 * t' + j) (by omega)
    exact rcR_eq a b c d ((hx.2 z).2.2 j p m v hj)⟩⟩
theorem txR_add {I J : Mm} {t p : Nat} {a : Int} {R : List Rc} {m : Im} {v : Int} (hl : R.length < 200) (h8 : rd J 218 t = rd I 218 t) (h9 : rd J 219 t = ((R.length + 1 : Nat) : Int)) (h : ∀ r, r < 200 * t + R.length → rd J 220 r = rd I 220 r ∧ rd J 221 r = rd I 221 r ∧ rd J 223 r = rd I 223 r ∧ ∀ g, g < 4 → rd J 222 (4 * r + g) = rd I 222 (4 * r + g)) (hn : RcR J (200 * t + R.length) p m v) (hx : TxR I t a R) : TxR J t a (R ++ [(p, m, v)]) := ⟨by rw [h8]; exact hx.1, fun z => ⟨by rw [h9, List.length_append]; rfl, by rw [List.length_append]; show R.length + 1 ≤ 200; omega, fun j p' m' v' hj => by
    by_cases c : j < R.length
    · rw [List.getElem?_append_left c] at hj
      obtain ⟨a, b, c, d⟩ := h (200 * t + j) (by omega)
      exact rcR_eq a b c d ((hx.2 z).2.2 j p' m' v' hj)
    · have e : j = R.length := by
        have := (List.getElem?_eq_some_iff.mp hj).1
        simp at this
        omega
      subst e
      simp at hj
      obtain ⟨h1, h2, h3⟩ := hj
      rw [← h1, ← h2, ← h3]
      exact hn⟩⟩
set_option maxHeartbeats 8000000 in
theorem c_rwrite {I : Mm} {K : Int → Mm → Prop} {S : St} {t p fa fb fc : Nat} {th : Int} {m : Im} (hS : RSR I S) (hO : SOK S) (ht : t < 8) (ha : sA S t = 1) (hp : p < 320) (hth : (th = 0 ∧ m = none) ∨ (th = 1 ∧ m = some (rd I 256 0, rd I 256 1, rd I 256 2, rd I 256 3)))
    (hK : ∀ J : Mm, LFr I J → RSR J (oWr S t p m).2 → K (oWr S t p m).1 J) : CallZ 171 [.inr (3, 0, 0), .inl (fa, (t : Int)), .inl (fb, (p : Int)), .inl (fc, th)] I K := by
  have ith : inR th := by rcases hth with e | e <;> rw [e.1] <;> exact ⟨by omega, by omega⟩
  have bth : th = 0 ∨ th = 1 := by rcases hth with e | e <;> omega
  refine callZ_fl (as' := [.inr (3, 0, 0), .inl (1, (t : Int)), .inl (1, (p : Int)), .inl (1, th)]) rfl ?_
  have hS0 := hS
  obtain ⟨r1, r2, ⟨r0, r3⟩, r4, r5⟩ := hS
  obtain ⟨w1, w2, w3, w4, w5⟩ := r1 p hp
  have tx := (r2 t ht)
  obtain ⟨x1, x2, x3⟩ := tx.2 (by rw [ha]; decide)
  refine callZ_of rfl (b_r_write (inRn (by omega)) (inRn (by omega)) ith ?_)
  rw [Int.toNat_natCast, Int.toNat_natCast, x1]
  unfold oWr at hK
  refine ⟨by omega, fun z => ?_, fun z => ?_⟩
  · rw [if_pos (by omega)] at hK
    exact hK I (fun _ _ => rfl) hS0
  rw [if_neg (by omega)] at hK
  refine c_keepBefore hp w4 w5 ?_
  intro I1 k1 k2 k3 k4 k5 k6
  have v217 : rd I1 217 p = (sW S).2.2 p := by rw [rd_of (k1 _ (by omega) (by omega))]; exact w3
  rw [v217]
  refine ⟨by omega, fun wa ewa iwa => ⟨by omega, fun I2 e2 => ⟨by omega, bth, fun I3 e3 => ?_⟩⟩⟩
  subst ewa
  -- the new row
  have loop45 : ∀ (d f : Nat) (J : Mm), f + d = 4 → (∀ c, c ≠ 214 → J c = I3 c) → (∀ x, (x < 4 * p ∨ 4 * p + f ≤ x) → rd J 214 x = rd I3 214 x) → (∀ q, q < f → th = 1 → rd J 214 (4 * p + q) = rd I 256 q) → (∀ J4 : Mm, (∀ c, c ≠ 214 → J4 c = I3 c) → (∀ x, (x < 4 * p ∨ 4 * p + 4 ≤ x) → rd J4 214 x = rd I3 214 x) → (∀ q, q < 4 → th = 1 → rd J4 214 (4 * p + q) = rd I 256 q) → GoA 171 89 [some (.inr (3, 0, 0)), some (.inl (1, (t : Int))), some (.inl (1, (p : Int))), some (.inl (1, th)), some (.inl (1, ((sW S).2.2 p))), some (.inl (1, 0)), some (.inl (1, 0)), none] [] J4 (rZ K)) → GoA 171 45 [some (.inr (3, 0, 0)), some (.inl (1, (t : Int))), some (.inl (1, (p : Int))), some (.inl (1, th)), some (.inl (1, ((sW S).2.2 p))), some (.inl (1, (f : Int))), none, none] [] J (rZ K) := by
    intro d
    induction d with
    | zero =>
      intro f J hf f1 f2 f3 fin
      refine b_r_write_45 (inRn (by omega)) (inRn (by omega)) ith iwa (inRn (by omega)) okO_n okO_n ⟨fun _ => ?_, fun z => absurd (by omega) z⟩
      exact fin J f1 (fun x hx => f2 x (by omega)) (fun q hq h1 => f3 q (by omega) h1)
    | succ d ih =>
      intro f J hf f1 f2 f3 fin
      have wv : wr (4 * (p : Int) + (f : Int)) = ((4 * p + f : Nat) : Int) := wrn (4 * p + f) (by omega) (by omega)
      have nx : ∀ (L : Mm) (y v : Int), inR y → (th = 1 → y = rd I 256 f) → L = wt J 214 (4 * p + f) y → v = wr ((f : Int) + 1) → GoA 171 45 [some (.inr (3, 0, 0)), some (.inl (1, (t : Int))), some (.inl (1, (p : Int))), some (.inl (1, th)), some (.inl (1, ((sW S).2.2 p))), some (.inl (1, v)), none, none] [] L (rZ K) := by
        intro L y v iy ey eL ev
        rw [wrn (f + 1) (by omega) (by omega)] at ev
        subst ev
        refine ih (f + 1) L (by omega) (fun c hc => by rw [eL, wt_a _ _ _ _ hc, f1 c hc]) (fun x hx => by rw [eL, rd_wt_k _ _ _ _ (by omega), f2 x (by omega)]) (fun q hq h1 => ?_) fin
        by_cases c : q = f
        · subst c; rw [eL, rd_wt_s _ _ _ iy, ey h1]
        · rw [eL, rd_wt_k _ _ _ _ (by omega), f3 q (by omega) h1]
      refine b_r_write_45 (inRn (by omega)) (inRn (by omega)) ith iwa (inRn (by omega)) okO_n okO_n ⟨fun z => absurd z (by omega), fun _ => ?_⟩
      rw [wv, Int.toNat_natCast, Int.toNat_natCast]
      refine ⟨fun z0 => ⟨by omega, fun L eL v ev _ => nx L 0 v ⟨by omega, by omega⟩ (fun h1 => absurd h1 (by omega)) eL ev⟩, fun z0 => ⟨by omega, by omega, fun L eL v ev _ => nx L _ v (rd_in _ _ _) (fun h1 => ?_) eL ev⟩⟩
      rw [rd_of (f1 256 (by omega)), e3, rd_wt_a _ _ _ _ (by omega), e2, rd_wt_a _ _ _ _ (by omega), rd_of (k1 256 (by omega) (by omega))]
  refine loop45 4 0 I3 (by omega) (fun _ _ => rfl) (fun _ _ => rfl) (fun q hq => absurd hq (by omega)) ?_
  intro J4 g1 g2 g3
  -- what J4 says
  have c4 : ∀ c, c ≠ 212 → c ≠ 214 → c ≠ 216 → c ≠ 217 → c ≠ 255 → J4 c = I c := fun c h1 h2 h3 h4 h5 => by rw [g1 c h2, e3, wt_a _ _ _ _ h3, e2, wt_a _ _ _ _ h4, k1 c h1 h5]
  have s4 : ∀ k, rd J4 212 k = rd I1 212 k := fun k => by rw [rd_of (g1 212 (by omega)), e3, rd_wt_a _ _ _ _ (by omega), e2, rd_wt_a _ _ _ _ (by omega)]
  have b4 : ∀ k, rd J4 255 k = rd I1 255 k := fun k => by rw [rd_of (g1 255 (by omega)), e3, rd_wt_a _ _ _ _ (by omega), e2, rd_wt_a _ _ _ _ (by omega)]
  have q214 : ∀ x, rd I3 214 x = rd I 214 x := fun x => by rw [e3, rd_wt_a _ _ _ _ (by omega), e2, rd_wt_a _ _ _ _ (by omega), rd_of (k1 _ (by omega) (by omega))]
  have v216 : rd J4 216 p = th := by rw [rd_of (g1 _ (by omega)), e3, rd_wt_s _ _ _ ith]
  have n216 : ∀ q, q ≠ p → rd J4 216 q = rd I 216 q := fun q hq => by rw [rd_of (g1 _ (by omega)), e3, rd_wt_k _ _ _ _ hq, e2, rd_wt_a _ _ _ _ (by omega), rd_of (k1 _ (by omega) (by omega))]
  have w217 : rd J4 217 p = t := by rw [rd_of (g1 _ (by omega)), e3, rd_wt_a _ _ _ _ (by omega), e2, rd_wt_s _ _ _ (inRn (by omega))]
  have n217 : ∀ q, q ≠ p → rd J4 217 q = rd I 217 q := fun q hq => by rw [rd_of (g1 _ (by omega)), e3, rd_wt_a _ _ _ _ (by omega), e2, rd_wt_k _ _ _ _ hq, rd_of (k1 _ (by omega) (by omega))]
  have row4 : RowR J4 (wRow (sW S) p m t) := by
    refine rowR_up hp r1 (c4 _ (by omega) (by omega) (by omega) (by omega) (by omega)) (c4 _ (by omega) (by omega) (by omega) (by omega) (by omega)) n217 w217 n216 (by rw [v216]; exact bth) (fun x hx => by rw [g2 x hx, q214]) ?_
    rcases hth with ⟨h1, h2⟩ | ⟨h1, h2⟩
    · rw [h2]; exact imG_none (by show rd J4 216 p = 0; rw [v216, h1])
    · rw [h2]
      show (if rd J4 216 p = 0 then none else some (rd J4 214 (4 * p), rd J4 214 (4 * p + 1), rd J4 214 (4 * p + 2), rd J4 214 (4 * p + 3))) = _
      have g30 : rd J4 214 (4 * p) = rd I 256 0 := g3 0 (by omega) h1
      rw [if_neg (by rw [v216]; omega), g30, g3 1 (by omega) h1, g3 2 (by omega) h1, g3 3 (by omega) h1]
  have ix4 : ∀ i, i < 6 → IxR J4 i (sX S i) := fun i hi => ixR_cg (fun c h1 h2 => c4 c (by omega) (by omega) (by omega) (by omega) (by omega)) (r3 i hi)
  have lf4 : LFr I J4 := fun c hc => c4 c (by omega) (by omega) (by omega) (by omega) (by omega)
  have k36 : rd J4 212 36 = rd I 212 36 := by rw [s4, k2 _ (by omega) (by omega)]
  have k38 : rd J4 212 38 = rd I 212 38 := by rw [s4, k2 _ (by omega) (by omega)]
  have k39 : rd J4 212 39 = rd I 212 39 := by rw [s4, k2 _ (by omega) (by omega)]
  have f50 : rd J4 212 50 = rd I 216 p := by rw [s4, k6]
  -- it is taken back
  have back : (m.isSome = true ∧ clS (sX S) (wRow (sW S) p m t) p = true) → ∀ f : Int, inR f → (0 ≤ (p : Int) ∧ (p : Int) < 320) ∧ (∀ I5, I5 = wt J4 217 (p : Int).toNat ((sW S).2.2 p) → (0 ≤ (p : Int) ∧ (p : Int) < 320) ∧ ((rd I5 212 50 = 0 ∨ rd I5 212 50 = 1) ∧ (∀ I6, I6 = wt I5 216 (p : Int).toNat (rd I5 212 50) → GoA 171 174 [some (.inr (3, 0, 0)), some (.inl (1, (t : Int))), some (.inl (1, (p : Int))), some (.inl (1, th)), some (.inl (1, ((sW S).2.2 p))), some (.inl (1, f)), some (.inl (2, 0)), none] [] I6 (rZ K)))) := by
    intro hcl f iff
    rw [if_pos hcl] at hK
    rw [Int.toNat_natCast]
    refine ⟨by omega, fun I5 e5 => ⟨by omega, ?_⟩⟩
    have f5 : rd I5 212 50 = rd I 216 p := by rw [e5, rd_wt_a _ _ _ _ (by omega), f50]
    rw [f5]
    refine ⟨w5, fun I6 e6 => ?_⟩
    have loop : ∀ (d f' : Nat) (J : Mm), f' + d = 4 → (∀ c, c ≠ 214 → J c = I6 c) → (∀ x, (x < 4 * p ∨ 4 * p + 4 ≤ x) → rd J 214 x = rd I 214 x) → (∀ q, q < f' → rd J 214 (4 * p + q) = rd I 214 (4 * p + q)) → GoA 171 174 [some (.inr (3, 0, 0)), some (.inl (1, (t : Int))), some (.inl (1, (p : Int))), some (.inl (1, th)), some (.inl (1, ((sW S).2.2 p))), some (.inl (1, f)), some (.inl (1, (f' : Int))), none] [] J (rZ K) := by
      intro d
      induction d with
      | zero =>
        intro f' J hf h1 h2 h3
        refine b_r_write_174 (okO_s (okF_1 (inRn (by omega)) 1)) (inRn (by omega)) (okO_s (okF_1 ith 1)) (okO_s (okF_1 iwa 1)) (okO_s (okF_1 iff 1)) (inRn (by omega)) okO_n ⟨fun _ => ?_, fun z => absurd (by omega) z⟩
        have cJ : ∀ c, c ≠ 212 → c ≠ 214 → c ≠ 216 → c ≠ 217 → c ≠ 255 → J c = I c := fun c a1 a2 a3 a4 a5 => by rw [h1 c a2, e6, wt_a _ _ _ _ a3, e5, wt_a _ _ _ _ a4, c4 c a1 a2 a3 a4 a5]
        have r14 : ∀ x, rd J 214 x = rd I 214 x := fun x => by
          by_cases c : x < 4 * p ∨ 4 * p + 4 ≤ x
          · exact h2 x c
          · have e : x = 4 * p + (x - 4 * p) := by omega
            rw [e]; exact h3 _ (by omega)
        have r16 : ∀ q, rd J 216 q = rd I 216 q := fun q => by
          by_cases c : q = p
          · subst c; rw [rd_of (h1 _ (by omega)), e6, rd_wt_s _ _ _ (rd_in _ _ _)]
          · rw [rd_of (h1 _ (by omega)), e6, rd_wt_k _ _ _ _ c, e5, rd_wt_a _ _ _ _ (by omega), n216 q c]
        have r17 : ∀ q, rd J 217 q = rd I 217 q := fun q => by
          by_cases c : q = p
          · subst c; rw [rd_of (h1 _ (by omega)), e6, rd_wt_a _ _ _ _ (by omega), e5, rd_wt_s _ _ _ iwa, w3]
          · rw [rd_of (h1 _ (by omega)), e6, rd_wt_a _ _ _ _ (by omega), e5, rd_wt_k _ _ _ _ c, n217 q c]
        have sJ : ∀ k, rd J 212 k = rd J4 212 k := fun k => by rw [rd_of (h1 _ (by omega)), e6, rd_wt_a _ _ _ _ (by omega), e5, rd_wt_a _ _ _ _ (by omega)]
        refine hK J (fun c hc => cJ c (by omega) (by omega) (by omega) (by omega) (by omega)) ⟨fun q hq => ?_, fun t ht => txR_cg (fun c a1 a2 => cJ c (by omega) (by omega) (by omega) (by omega) (by omega)) (r2 t ht), ⟨cnOK_cg (cJ _ (by omega) (by omega) (by omega) (by omega) (by omega)) r0, fun i hi => ixR_cg (fun c a1 a2 => cJ c (by omega) (by omega) (by omega) (by omega) (by omega)) (r3 i hi)⟩, bdR_cg (cJ _ (by omega) (by omega) (by omega) (by omega) (by omega)) (cJ _ (by omega) (by omega) (by omega) (by omega) (by omega)) r4, qsR_cg (by rw [sJ, k36]) (by rw [sJ, k38]) (by rw [sJ, k39]) (cJ _ (by omega) (by omega) (by omega) (by omega) (by omega)) r5⟩
        obtain ⟨a1, a2, a3, a4, a5⟩ := r1 q hq
        exact ⟨by rw [imR_cg (cJ _ (by omega) (by omega) (by omega) (by omega) (by omega)) (cJ _ (by omega) (by omega) (by omega) (by omega) (by omega))]; exact a1, by rw [← a2]; exact imG_cp (r16 q) (fun g _ => r14 _), by rw [r17]; exact a3, by rw [rd_of (cJ _ (by omega) (by omega) (by omega) (by omega) (by omega))]; exact a4, by rw [r16]; exact a5⟩
      | succ d ih =>
        intro f' J hf h1 h2 h3
        refine b_r_write_174 (okO_s (okF_1 (inRn (by omega)) 1)) (inRn (by omega)) (okO_s (okF_1 ith 1)) (okO_s (okF_1 iwa 1)) (okO_s (okF_1 iff 1)) (inRn (by omega)) okO_n ⟨fun z => absurd z (by omega), fun _ => ?_⟩
        have wv : wr (4 * (p : Int) + (f' : Int)) = ((4 * p + f' : Nat) : Int) := wrn (4 * p + f') (by omega) (by omega)
        have wu : wr (4 + (f' : Int)) = ((4 + f' : Nat) : Int) := wrn (4 + f') (by omega) (by omega)
        rw [wv, wu, Int.toNat_natCast, Int.toNat_natCast]
        refine ⟨by omega, by omega, fun L eL v ev _ => ?_⟩
        rw [wrn (f' + 1) (by omega) (by omega)] at ev
        subst ev
        have q5 : rd J 255 (4 + f') = rd I 214 (4 * p + f') := by rw [rd_of (h1 _ (by omega)), e6, rd_wt_a _ _ _ _ (by omega), e5, rd_wt_a _ _ _ _ (by omega), b4, k5 _ (by omega)]
        rw [q5] at eL
        refine ih (f' + 1) L (by omega) (fun c hc => by rw [eL, wt_a _ _ _ _ hc, h1 c hc]) (fun x hx => by rw [eL, rd_wt_k _ _ _ _ (by omega), h2 x hx]) (fun q hq => ?_)
        by_cases c : q = f'
        · subst c; rw [eL, rd_wt_s _ _ _ (rd_in _ _ _)]
        · rw [eL, rd_wt_k _ _ _ _ (by omega), h3 q (by omega)]
    exact loop 4 0 I6 (by omega) (fun _ _ => rfl) (fun x hx => by rw [e6, rd_wt_a _ _ _ _ (by omega), e5, rd_wt_a _ _ _ _ (by omega), g2 x hx, q214]) (fun q hq => absurd hq (by omega))
  -- it is recorded
  have keep : ¬ (m.isSome = true ∧ clS (sX S) (wRow (sW S) p m t) p = true) → ∀ f : Int, inR f → (0 ≤ (t : Int) ∧ (t : Int) < 8) ∧ (∀ v6_1, v6_1 = wr ((200 * (t : Int)) + (rd J4 219 (t : Int).toNat)) → inR v6_1 → (0 ≤ (t : Int) ∧ (t : Int) < 8) ∧ ((0 ≤ (t : Int) ∧ (t : Int) < 8) ∧ (∀ I1, I1 = wt J4 219 (t : Int).toNat ((rd J4 219 (t : Int).toNat) + 1) → (0 ≤ v6_1 ∧ v6_1 < 1600) ∧ (∀ I2, I2 = wt I1 220 v6_1.toNat (p : Int) → (0 ≤ v6_1 ∧ v6_1 < 1600) ∧ ((rd I2 212 50 = 0 ∨ rd I2 212 50 = 1) ∧ (∀ I3, I3 = wt I2 221 v6_1.toNat (rd I2 212 50) → (0 ≤ v6_1 ∧ v6_1 < 1600) ∧ (∀ I4, I4 = wt I3 223 v6_1.toNat ((sW S).2.2 p) → GoA 171 264 [some (.inr (3, 0, 0)), some (.inl (1, (t : Int))), some (.inl (1, (p : Int))), some (.inl (1, th)), some (.inl (1, ((sW S).2.2 p))), some (.inl (1, f)), some (.inl (1, v6_1)), some (.inl (2, 0))] [] I4 (rZ K)))))))) := by
    intro hcl f iff
    rw [if_neg hcl] at hK
    have q219 : rd J4 219 t = (sR S t).length := by rw [rd_of (c4 _ (by omega) (by omega) (by omega) (by omega) (by omega)), x1]
    rw [Int.toNat_natCast, q219]
    refine ⟨by omega, fun v ev _ => ?_⟩
    rw [wrn (200 * t + (sR S t).length) (by omega) (by omega)] at ev
    subst ev
    rw [Int.toNat_natCast]
    refine ⟨by omega, by omega, fun L1 a1 => ⟨by omega, fun L2 a2 => ⟨by omega, ?_⟩⟩⟩
    have f5 : rd L2 212 50 = rd I 216 p := by rw [a2, rd_wt_a _ _ _ _ (by omega), a1, rd_wt_a _ _ _ _ (by omega), f50]
    rw [f5]
    refine ⟨w5, fun L3 a3 => ⟨by omega, fun L4 a4 => ?_⟩⟩
    have loop : ∀ (d f' : Nat) (J : Mm), f' + d = 4 → (∀ c, c ≠ 222 → J c = L4 c) → (∀ x, (x < 4 * (200 * t + (sR S t).length) ∨ 4 * (200 * t + (sR S t).length) + 4 ≤ x) → rd J 222 x = rd I 222 x) → (∀ q, q < f' → rd J 222 (4 * (200 * t + (sR S t).length) + q) = rd I 214 (4 * p + q)) → GoA 171 264 [some (.inr (3, 0, 0)), some (.inl (1, (t : Int))), some (.inl (1, (p : Int))), some (.inl (1, th)), some (.inl (1, ((sW S).2.2 p))), some (.inl (1, f)), some (.inl (1, ((200 * t + (sR S t).length : Nat) : Int))), some (.inl (1, (f' : Int)))] [] J (rZ K) := by
      intro d
      induction d with
      | zero =>
        intro f' J hf h1 h2 h3
        refine b_r_write_264 (okO_s (okF_1 (inRn (by omega)) 1)) (inRn (by omega)) (okO_s (okF_1 ith 1)) (okO_s (okF_1 iwa 1)) (okO_s (okF_1 iff 1)) (inRn (by omega)) (inRn (by omega)) ⟨fun _ => ?_, fun z => absurd (by omega) z⟩
        have j4 : ∀ c, c ≠ 219 → c ≠ 220 → c ≠ 221 → c ≠ 222 → c ≠ 223 → J c = J4 c := fun c b1 b2 b3 b4 b5 => by rw [h1 c b4, a4, wt_a _ _ _ _ b5, a3, wt_a _ _ _ _ b3, a2, wt_a _ _ _ _ b2, a1, wt_a _ _ _ _ b1]
        have rowJ : RowR J (wRow (sW S) p m t) := rowR_cg (fun c b1 b2 => j4 c (by omega) (by omega) (by omega) (by omega) (by omega)) row4
        have ixJ : ∀ i, i < 6 → IxR J i (sX S i) := fun i hi => ixR_cg (fun c b1 b2 => j4 c (by omega) (by omega) (by omega) (by omega) (by omega)) (ix4 i hi)
        have cJ : cnOK J := cnOK_cg (j4 _ (by omega) (by omega) (by omega) (by omega) (by omega)) (cnOK_cg (c4 _ (by omega) (by omega) (by omega) (by omega) (by omega)) r0)
        have bJ0 : imB J 0 = (sW S).1 p := by
          rw [← w1, ← k3]
          exact imG_cp (by rw [rd_of (j4 212 (by omega) (by omega) (by omega) (by omega) (by omega)), s4]) (fun g _ => by rw [rd_of (j4 255 (by omega) (by omega) (by omega) (by omega) (by omega)), b4])
        have bJ1 : imB J 1 = (sW S).2.1 p := by
          rw [← w2, ← k4]
          exact imG_cp (by rw [rd_of (j4 212 (by omega) (by omega) (by omega) (by omega) (by omega)), s4]) (fun g _ => by rw [rd_of (j4 255 (by omega) (by omega) (by omega) (by omega) (by omega)), b4])
        refine c_changed (X := sX S) hp rowJ cJ ixJ hO.2.1 (Or.inl ⟨bJ0, bJ1⟩) ?_
        intro J' fA cJ' hX'
        have jc : ∀ c, 213 ≤ c → c ≤ 223 → J' c = J c := fun c b1 b2 => fA.1 c (by omega)
        refine hK J' (fun c hc => by rw [fA.1 c (by omega), j4 c (by omega) (by omega) (by omega) (by omega) (by omega), lf4 c hc]) ⟨rowR_cg (fun c b1 b2 => jc c (by omega) (by omega)) rowJ, fun t' ht' => ?_, ⟨cJ', hX'⟩, bdR_cg ?_ ?_ r4, qsR_cg ?_ ?_ ?_ ?_ r5⟩
        · refine txR_cg (I := J) (fun c b1 b2 => jc c (by omega) (by omega)) ?_
          have z218 : ∀ q, rd J 218 q = rd I 218 q := fun q => by rw [rd_of (j4 _ (by omega) (by omega) (by omega) (by omega) (by omega)), rd_of (c4 _ (by omega) (by omega) (by omega) (by omega) (by omega))]
          have z219 : ∀ q, q ≠ t → rd J 219 q = rd I 219 q := fun q hq => by rw [rd_of (h1 _ (by omega)), a4, rd_wt_a _ _ _ _ (by omega), a3, rd_wt_a _ _ _ _ (by omega), a2, rd_wt_a _ _ _ _ (by omega), a1, rd_wt_k _ _ _ _ hq, rd_of (c4 _ (by omega) (by omega) (by omega) (by omega) (by omega))]
          have zr : ∀ r, r ≠ 200 * t + (sR S t).length → rd J 220 r = rd I 220 r ∧ rd J 221 r = rd I 221 r ∧ rd J 223 r = rd I 223 r ∧ ∀ g, g < 4 → rd J 222 (4 * r + g) = rd I 222 (4 * r + g) := fun r hr => by
            refine ⟨?_, ?_, ?_, fun g hg => h2 _ (by omega)⟩
            · rw [rd_of (h1 _ (by omega)), a4, rd_wt_a _ _ _ _ (by omega), a3, rd_wt_a _ _ _ _ (by omega), a2, rd_wt_k _ _ _ _ hr, a1, rd_wt_a _ _ _ _ (by omega), rd_of (c4 _ (by omega) (by omega) (by omega) (by omega) (by omega))]
            · rw [rd_of (h1 _ (by omega)), a4, rd_wt_a _ _ _ _ (by omega), a3, rd_wt_k _ _ _ _ hr, a2, rd_wt_a _ _ _ _ (by omega), a1, rd_wt_a _ _ _ _ (by omega), rd_of (c4 _ (by omega) (by omega) (by omega) (by omega) (by omega))]
            · rw [rd_of (h1 _ (by omega)), a4, rd_wt_k _ _ _ _ hr, a3, rd_wt_a _ _ _ _ (by omega), a2, rd_wt_a _ _ _ _ (by omega), a1, rd_wt_a _ _ _ _ (by omega), rd_of (c4 _ (by omega) (by omega) (by omega) (by omega) (by omega))]
          show TxR J t' (sA S t') (upN (sR S) t (sR S t ++ [(p, (sW S).2.1 p, (sW S).2.2 p)]) t')
          by_cases c : t' = t
          · subst c
            rw [upN_s]
            refine txR_add (by omega) (z218 _) ?_ (fun r hr => zr r (by omega)) ⟨?_, hp, ?_, ?_, ?_⟩ tx
            · rw [rd_of (h1 _ (by omega)), a4, rd_wt_a _ _ _ _ (by omega), a3, rd_wt_a _ _ _ _ (by omega), a2, rd_wt_a _ _ _ _ (by omega), a1, rd_wt_s _ _ _ ⟨by omega, by omega⟩]; rfl
            · rw [rd_of (h1 _ (by omega)), a4, rd_wt_a _ _ _ _ (by omega), a3, rd_wt_a _ _ _ _ (by omega), a2, rd_wt_s _ _ _ (inRn (by omega))]
            · rw [← w2]
              refine imG_cp ?_ (fun g hg => h3 g (by omega))
              rw [rd_of (h1 _ (by omega)), a4, rd_wt_a _ _ _ _ (by omega), a3, rd_wt_s _ _ _ (rd_in _ _ _)]
            · rw [rd_of (h1 _ (by omega)), a4, rd_wt_s _ _ _ iwa]
            · rw [rd_of (h1 _ (by omega)), a4, rd_wt_a _ _ _ _ (by omega), a3, rd_wt_s _ _ _ (rd_in _ _ _)]
              exact w5
          · rw [upN_o c]
            exact txR_up c (z218 _) (z219 _ c) (fun r hr => zr r (by omega)) (r2 t' ht')
        · rw [fA.1 _ (by omega), j4 _ (by omega) (by omega) (by omega) (by omega) (by omega), c4 _ (by omega) (by omega) (by omega) (by omega) (by omega)]
        · rw [fA.1 _ (by omega), j4 _ (by omega) (by omega) (by omega) (by omega) (by omega), c4 _ (by omega) (by omega) (by omega) (by omega) (by omega)]
        · rw [fA.2 _ (by omega) (by omega) (by omega), rd_of (j4 _ (by omega) (by omega) (by omega) (by omega) (by omega)), k36]
        · rw [fA.2 _ (by omega) (by omega) (by omega), rd_of (j4 _ (by omega) (by omega) (by omega) (by omega) (by omega)), k38]
        · rw [fA.2 _ (by omega) (by omega) (by omega), rd_of (j4 _ (by omega) (by omega) (by omega) (by omega) (by omega)), k39]
        · rw [fA.1 _ (by omega), j4 _ (by omega) (by omega) (by omega) (by omega) (by omega), c4 _ (by omega) (by omega) (by omega) (by omega) (by omega)]
      | succ d ih =>
        intro f' J hf h1 h2 h3
        refine b_r_write_264 (okO_s (okF_1 (inRn (by omega)) 1)) (inRn (by omega)) (okO_s (okF_1 ith 1)) (okO_s (okF_1 iwa 1)) (okO_s (okF_1 iff 1)) (inRn (by omega)) (inRn (by omega)) ⟨fun z => absurd z (by omega), fun _ => ?_⟩
        have wv : wr (4 * ((200 * t + (sR S t).length : Nat) : Int) + (f' : Int)) = ((4 * (200 * t + (sR S t).length) + f' : Nat) : Int) := wrn (4 * (200 * t + (sR S t).length) + f') (by omega) (by omega)
        have wu : wr (4 + (f' : Int)) = ((4 + f' : Nat) : Int) := wrn (4 + f') (by omega) (by omega)
        rw [wv, wu, Int.toNat_natCast, Int.toNat_natCast]
        refine ⟨by omega, by omega, fun L eL v ev _ => ?_⟩
        rw [wrn (f' + 1) (by omega) (by omega)] at ev
        subst ev
        have q5 : rd J 255 (4 + f') = rd I 214 (4 * p + f') := by rw [rd_of (h1 _ (by omega)), a4, rd_wt_a _ _ _ _ (by omega), a3, rd_wt_a _ _ _ _ (by omega), a2, rd_wt_a _ _ _ _ (by omega), a1, rd_wt_a _ _ _ _ (by omega), b4, k5 _ (by omega)]
        rw [q5] at eL
        refine ih (f' + 1) L (by omega) (fun c hc => by rw [eL, wt_a _ _ _ _ hc, h1 c hc]) (fun x hx => by rw [eL, rd_wt_k _ _ _ _ (by omega), h2 x hx]) (fun q hq => ?_)
        by_cases c : q = f'
        · subst c; rw [eL, rd_wt_s _ _ _ (rd_in _ _ _)]
        · rw [eL, rd_wt_k _ _ _ _ (by omega), h3 q (by omega)]
    exact loop 4 0 L4 (by omega) (fun _ _ => rfl) (fun x hx => by rw [a4, rd_wt_a _ _ _ _ (by omega), a3, rd_wt_a _ _ _ _ (by omega), a2, rd_wt_a _ _ _ _ (by omega), a1, rd_wt_a _ _ _ _ (by omega), rd_of (c4 _ (by omega) (by omega) (by omega) (by omega) (by omega))]) (fun q hq => absurd hq (by omega))
  -- clashes
  have loop89 : ∀ (d i : Nat) (f0 : Bool), i + d = 6 → (th = 1 → (f0 || anyN (fun i => gd (sX S i) && decide (clOf (xK (sX S i)) (wRow (sW S) p m t) p ≠ -1)) d i) = clS (sX S) (wRow (sW S) p m t) p) → (th = 0 → f0 = false) → GoA 171 89 [some (.inr (3, 0, 0)), some (.inl (1, (t : Int))), some (.inl (1, (p : Int))), some (.inl (1, th)), some (.inl (1, ((sW S).2.2 p))), some (.inl (1, b01 f0)), some (.inl (1, (i : Int))), none] [] J4 (rZ K) := by
    have m0 : th = 0 → ¬ (m.isSome = true ∧ clS (sX S) (wRow (sW S) p m t) p = true) := fun h c => by
      rcases hth with e | e
      · rw [e.2] at c; exact absurd c.1 (by decide)
      · omega
    have m1 : th = 1 → m.isSome = true := fun h => by
      rcases hth with e | e
      · omega
      · rw [e.2]; rfl
    intro d
    induction d with
    | zero =>
      intro i f0 hi hs h0
      refine b_r_write_89 (inRn (by omega)) (inRn (by omega)) ith iwa (inR_b01 _) (inRn (by omega)) okO_n ⟨fun _ => ⟨fun z => ?_, fun z => ?_⟩, fun z => absurd (by omega) z⟩
      · refine keep ?_ _ (inR_b01 _)
        rcases bth with e | e
        · exact m0 e
        · intro c
          have := hs e
          rw [← this] at c
          cases f0 with
          | false => have c2 : (false || false) = true := c.2; exact absurd c2 (by decide)
          | true => exact absurd z (by decide)
      · refine back ?_ _ (inR_b01 _)
        rcases bth with e | e
        · rw [h0 e] at z; exact absurd rfl z
        · refine ⟨m1 e, ?_⟩
          rw [← hs e]
          cases f0 with
          | false => exact absurd rfl z
          | true => rfl
    | succ d ih =>
      intro i f0 hi hs h0
      have i6 : i < 6 := by omega
      have hs : th = 1 → (f0 || ((gd (sX S i) && decide (clOf (xK (sX S i)) (wRow (sW S) p m t) p ≠ -1)) || anyN (fun i => gd (sX S i) && decide (clOf (xK (sX S i)) (wRow (sW S) p m t) p ≠ -1)) d (i + 1))) = clS (sX S) (wRow (sW S) p m t) p := hs
      have nx : th = 1 → ∀ (v : Int) (b : Bool), v = wr ((i : Int) + 1) → b = (f0 || (gd (sX S i) && decide (clOf (xK (sX S i)) (wRow (sW S) p m t) p ≠ -1))) → GoA 171 89 [some (.inr (3, 0, 0)), some (.inl (1, (t : Int))), some (.inl (1, (p : Int))), some (.inl (1, th)), some (.inl (1, ((sW S).2.2 p))), some (.inl (1, b01 b)), some (.inl (1, v)), none] [] J4 (rZ K) := fun h1 v b ev eb => by
        rw [wrn (i + 1) (by omega) (by omega)] at ev
        subst ev
        exact ih (i + 1) b (by omega) (fun h => by rw [eb, Bool.or_assoc]; exact hs h) (fun h => absurd h (by omega))
      have hx := ix4 i i6
      refine b_r_write_89 (inRn (by omega)) (inRn (by omega)) ith iwa (inR_b01 _) (inRn (by omega)) okO_n ⟨fun z => absurd z (by omega), fun _ => ⟨fun z0 => ⟨fun z => keep (m0 z0) _ (inR_b01 _), fun z => ?_⟩, fun z0 => ?_⟩⟩
      · rw [h0 z0] at z; exact absurd rfl z
      · have h1 : th = 1 := by omega
        refine ⟨fun z => ⟨fun z => absurd z (by omega), fun _ => ⟨fun z => absurd z (by omega), fun _ => ⟨by omega, ?_⟩⟩⟩, fun z v ev _ => nx h1 v true ev ?_⟩
        · have ef : f0 = false := by
            cases f0 with
            | false => rfl
            | true => exact absurd z (by decide)
          subst ef
          rw [Int.toNat_natCast, hx.1]
          refine ⟨fun zu v ev _ => nx h1 v false ev ?_, fun zu => ⟨by omega, ?_⟩⟩
          · unfold gd; rw [decide_eq_false (fun c => c.1 zu)]; rfl
          obtain ⟨b1, b2, b3, b4', b5, b6, b7, b8⟩ := hx.2 zu
          rw [b4'.1, b1]
          refine ⟨fun zs => ⟨by omega, fun zq v ev _ => nx h1 v false ev ?_, fun zq => ?_⟩, fun zs v ev _ => nx h1 v false ev ?_⟩
          · unfold gd; rw [decide_eq_false (fun c => c.2.1 zq)]; rfl
          · have eg : gd (sX S i) = true := decide_eq_true ⟨zu, zq, zs⟩
            refine c_rclashOf i6 (sok_k hO i i6 zu) b2 hp row4 ⟨fun zc v ev _ => nx h1 v false ev ?_, fun zc v ev _ => nx h1 v true ev ?_⟩
            · rw [eg, decide_eq_false (fun c => c zc)]; rfl
            · rw [eg, decide_eq_true zc]; rfl
          · unfold gd; rw [decide_eq_false (fun c => zs c.2.2)]; rfl
        · cases f0 with
          | false => exact absurd rfl z
          | true => rfl
  exact loop89 6 0 false (by omega) (fun _ => rfl) (fun _ => rfl)
