/-! THE REFERENCE: would it clash; undo, abort, commit -/
def ckR (S : St) (t n i k : Nat) : Bool := decide (clOf (xK (sX S i)) (unRow ((sR S t).drop n).reverse (sW S)) (plR (sR S t) k) ≠ -1)
def unClR (S : St) (t n : Nat) : Bool := anyN (fun i => gd (sX S i) && anyN (ckR S t n i) ((sR S t).length - n) n) 6 0
theorem unRow_snoc (L : List Rc) (r : Rc) (w : Rw) : unRow (L ++ [r]) w = wRow (unRow L w) r.1 r.2.1 r.2.2 := by
  rw [unRow_app]; rfl
set_option maxHeartbeats 8000000 in
theorem c_rwould {I : Mm} {K : Int → Mm → Prop} {S : St} {t n fa fb : Nat} (hS : RSR I S) (hO : SOK S) (ht : t < 8) (ha : sA S t = 1) (hn : n ≤ (sR S t).length)
    (hK : ∀ J : Mm, LFr I J → RSR J S → K (b01 (unClR S t n)) J) : CallZ 180 [.inr (3, 0, 0), .inl (fa, (t : Int)), .inl (fb, (n : Int))] I K := by
  refine callZ_fl (as' := [.inr (3, 0, 0), .inl (1, (t : Int)), .inl (1, (n : Int))]) rfl ?_
  obtain ⟨r1, r2, ⟨r0, r3⟩, r4, r5⟩ := hS
  obtain ⟨x1, x2, x3⟩ := (r2 t ht).2 (by rw [ha]; decide)
  obtain ⟨R, hR⟩ : ∃ R, R = sR S t := ⟨_, rfl⟩
  obtain ⟨w', hw'⟩ : ∃ w', w' = unRow (R.drop n).reverse (sW S) := ⟨_, rfl⟩
  rw [← hR] at x1 x2 x3 hn
  -- what has been put aside
  have okt : okO (some (.inl (1, (t : Int)))) := okO_s (okF_1 (inRn (by omega)) 1)
  have okn : okO (some (.inl (1, (n : Int)))) := okO_s (okF_1 (inRn (by omega)) 1)
  have restore : ∀ (J0 : Mm) (b : Bool), (∀ c, c ≠ 214 → c ≠ 216 → c ≠ 217 → c ≠ 257 → c ≠ 258 → c ≠ 259 → J0 c = I c) → (∀ q, q < 320 → rd J0 258 q = rd I 216 q ∧ rd J0 259 q = rd I 217 q ∧ ∀ g, g < 4 → rd J0 257 (4 * q + g) = rd I 214 (4 * q + g)) → b = unClR S t n → ∀ (m5 m6 : Option AV), okO m5 → okO m6 → GoA 180 274 [some (.inr (3, 0, 0)), some (.inl (1, (t : Int))), some (.inl (1, (n : Int))), some (.inl (1, b01 b)), some (.inl (1, 0)), m5, m6] [] J0 (rZ K) := by
    intro J0 b j1 j2 eb
    have loop : ∀ (d p : Nat) (J : Mm), p + d = 320 → (∀ c, c ≠ 214 → c ≠ 216 → c ≠ 217 → J c = J0 c) → (∀ q, q < p → rd J 216 q = rd I 216 q ∧ rd J 217 q = rd I 217 q ∧ ∀ g, g < 4 → rd J 214 (4 * q + g) = rd I 214 (4 * q + g)) → ∀ (m5 m6 : Option AV), okO m5 → okO m6 → GoA 180 274 [some (.inr (3, 0, 0)), some (.inl (1, (t : Int))), some (.inl (1, (n : Int))), some (.inl (1, b01 b)), some (.inl (1, (p : Int))), m5, m6] [] J (rZ K) := by
      intro d
      induction d with
      | zero =>
        intro p J hp h1 h2 m5 m6 o5 o6
        refine b_r_wouldClash_274 okt okn (inR_b01 _) (inRn (by omega)) o5 o6 ⟨fun _ => ⟨b01_bl _, ?_⟩, fun z => absurd (by omega) z⟩
        have cJ : ∀ c, c ≠ 214 → c ≠ 216 → c ≠ 217 → c ≠ 257 → c ≠ 258 → c ≠ 259 → J c = I c := fun c a1 a2 a3 a4 a5 a6 => by rw [h1 c a1 a2 a3, j1 c a1 a2 a3 a4 a5 a6]
        subst eb
        refine hK J (fun c hc => cJ c (by omega) (by omega) (by omega) (by omega) (by omega) (by omega)) ⟨fun q hq => ?_, fun t ht => txR_cg (fun c a1 a2 => cJ c (by omega) (by omega) (by omega) (by omega) (by omega) (by omega)) (r2 t ht), ⟨cnOK_cg (cJ _ (by omega) (by omega) (by omega) (by omega) (by omega) (by omega)) r0, fun i hi => ixR_cg (fun c a1 a2 => cJ c (by omega) (by omega) (by omega) (by omega) (by omega) (by omega)) (r3 i hi)⟩, bdR_cg (cJ _ (by omega) (by omega) (by omega) (by omega) (by omega) (by omega)) (cJ _ (by omega) (by omega) (by omega) (by omega) (by omega) (by omega)) r4, qsR_cg (rd_of (cJ _ (by omega) (by omega) (by omega) (by omega) (by omega) (by omega)) _) (rd_of (cJ _ (by omega) (by omega) (by omega) (by omega) (by omega) (by omega)) _) (rd_of (cJ _ (by omega) (by omega) (by omega) (by omega) (by omega) (by omega)) _) (cJ _ (by omega) (by omega) (by omega) (by omega) (by omega) (by omega)) r5⟩
        obtain ⟨a1, a2, a3, a4, a5⟩ := r1 q hq
        obtain ⟨b1, b2, b3⟩ := h2 q (by omega)
        exact ⟨by rw [imR_cg (cJ _ (by omega) (by omega) (by omega) (by omega) (by omega) (by omega)) (cJ _ (by omega) (by omega) (by omega) (by omega) (by omega) (by omega))]; exact a1, by rw [← a2]; exact imG_cp b1 b3, by rw [b2]; exact a3, by rw [rd_of (cJ _ (by omega) (by omega) (by omega) (by omega) (by omega) (by omega))]; exact a4, by rw [b1]; exact a5⟩
      | succ d ih =>
        intro p J hp h1 h2 m5 m6 o5 o6
        have p3 : p < 320 := by omega
        obtain ⟨y1, y2, y3⟩ := j2 p p3
        obtain ⟨a1, a2, a3, a4, a5⟩ := r1 p p3
        refine b_r_wouldClash_274 okt okn (inR_b01 _) (inRn (by omega)) o5 o6 ⟨fun z => absurd z (by omega), fun _ => ?_⟩
        rw [Int.toNat_natCast, rd_of (h1 258 (by omega) (by omega) (by omega)), y1]
        refine ⟨by omega, by omega, a5, fun L1 e1 => ⟨by omega, by omega, fun L2 e2 => ?_⟩⟩
        have z9 : rd L1 259 p = rd I 217 p := by rw [e1, rd_wt_a _ _ _ _ (by omega), rd_of (h1 259 (by omega) (by omega) (by omega)), y2]
        rw [z9] at e2
        have inner : ∀ (l f : Nat) (N : Mm), f + l = 4 → (∀ c, c ≠ 214 → N c = L2 c) → (∀ x, (x < 4 * p ∨ 4 * p + 4 ≤ x) → rd N 214 x = rd J 214 x) → (∀ g, g < f → rd N 214 (4 * p + g) = rd I 214 (4 * p + g)) → GoA 180 313 [some (.inr (3, 0, 0)), some (.inl (1, (t : Int))), some (.inl (1, (n : Int))), some (.inl (1, b01 b)), some (.inl (1, (p : Int))), some (.inl (1, (f : Int))), m6] [] N (rZ K) := by
          intro l
          induction l with
          | zero =>
            intro f N hf n1 n2 n3
            refine b_r_wouldClash_313 okt okn (inR_b01 _) (inRn (by omega)) (inRn (by omega)) o6 ⟨fun _ v ev _ => ?_, fun z => absurd (by omega) z⟩
            rw [wrn (p + 1) (by omega) (by omega)] at ev
            subst ev
            refine ih (p + 1) N (by omega) (fun c a1 a2 a3 => by rw [n1 c a1, e2, wt_a _ _ _ _ a3, e1, wt_a _ _ _ _ a2, h1 c a1 a2 a3]) (fun q hq => ?_) _ _ (okO_s (okF_1 (inRn (by omega)) 1)) o6
            by_cases c : q = p
            · subst c
              exact ⟨by rw [rd_of (n1 _ (by omega)), e2, rd_wt_a _ _ _ _ (by omega), e1, rd_wt_s _ _ _ (rd_in _ _ _)], by rw [rd_of (n1 _ (by omega)), e2, rd_wt_s _ _ _ (rd_in _ _ _)], fun g hg => n3 g (by omega)⟩
            · obtain ⟨b1, b2, b3⟩ := h2 q (by omega)
              exact ⟨by rw [rd_of (n1 _ (by omega)), e2, rd_wt_a _ _ _ _ (by omega), e1, rd_wt_k _ _ _ _ c, b1], by rw [rd_of (n1 _ (by omega)), e2, rd_wt_k _ _ _ _ c, e1, rd_wt_a _ _ _ _ (by omega), b2], fun g hg => by rw [n2 _ (by omega), b3 g hg]⟩
          | succ l ihl =>
            intro f N hf n1 n2 n3
            refine b_r_wouldClash_313 okt okn (inR_b01 _) (inRn (by omega)) (inRn (by omega)) o6 ⟨fun z => absurd z (by omega), fun _ => ?_⟩
            have wv : wr (4 * (p : Int) + (f : Int)) = ((4 * p + f : Nat) : Int) := wrn (4 * p + f) (by omega) (by omega)
            rw [wv, Int.toNat_natCast]
            refine ⟨by omega, by omega, fun Q eQ v ev _ => ?_⟩
            rw [wrn (f + 1) (by omega) (by omega)] at ev
            subst ev
            have q7 : rd N 257 (4 * p + f) = rd I 214 (4 * p + f) := by rw [rd_of (n1 _ (by omega)), e2, rd_wt_a _ _ _ _ (by omega), e1, rd_wt_a _ _ _ _ (by omega), rd_of (h1 257 (by omega) (by omega) (by omega)), y3 f (by omega)]
            rw [q7] at eQ
            refine ihl (f + 1) Q (by omega) (fun c hc => by rw [eQ, wt_a _ _ _ _ hc, n1 c hc]) (fun x hx => by rw [eQ, rd_wt_k _ _ _ _ (by omega), n2 x hx]) (fun g hg => ?_)
            by_cases c : g = f
            · subst c; rw [eQ, rd_wt_s _ _ _ (rd_in _ _ _)]
            · rw [eQ, rd_wt_k _ _ _ _ (by omega), n3 g (by omega)]
        exact inner 4 0 L2 (by omega) (fun _ _ => rfl) (fun x _ => by rw [e2, rd_wt_a _ _ _ _ (by omega), e1, rd_wt_a _ _ _ _ (by omega)]) (fun g hg => absurd hg (by omega))
    exact loop 320 0 J0 (by omega) (fun _ _ _ _ => rfl) (fun q hq => absurd hq (by omega))
  -- the clashes
  have clashes : ∀ J0 : Mm, (∀ c, c ≠ 214 → c ≠ 216 → c ≠ 217 → c ≠ 257 → c ≠ 258 → c ≠ 259 → J0 c = I c) → (∀ q, q < 320 → rd J0 258 q = rd I 216 q ∧ rd J0 259 q = rd I 217 q ∧ ∀ g, g < 4 → rd J0 257 (4 * q + g) = rd I 214 (4 * q + g)) → RowR J0 w' → ∀ (m5 m6 : Option AV), okO m5 → okO m6 → GoA 180 186 [some (.inr (3, 0, 0)), some (.inl (1, (t : Int))), some (.inl (1, (n : Int))), some (.inl (1, 0)), some (.inl (1, 0)), m5, m6] [] J0 (rZ K) := by
    intro J0 j1 j2 jw
    have x1J : rd J0 219 t = R.length := by rw [rd_of (j1 _ (by omega) (by omega) (by omega) (by omega) (by omega) (by omega)), x1]
    have loop : ∀ (d i : Nat) (b : Bool), i + d = 6 → (b || anyN (fun i => gd (sX S i) && anyN (ckR S t n i) ((sR S t).length - n) n) d i) = unClR S t n → ∀ (m5 m6 : Option AV), okO m5 → okO m6 → GoA 180 186 [some (.inr (3, 0, 0)), some (.inl (1, (t : Int))), some (.inl (1, (n : Int))), some (.inl (1, b01 b)), some (.inl (1, (i : Int))), m5, m6] [] J0 (rZ K) := by
      intro d
      induction d with
      | zero =>
        intro i b hi hb m5 m6 o5 o6
        have hb : (b || false) = unClR S t n := hb
        rw [Bool.or_false] at hb
        refine b_r_wouldClash_186 (inRn (by omega)) (inRn (by omega)) (inR_b01 _) (inRn (by omega)) o5 o6 ⟨fun _ => ?_, fun z => absurd (by omega) z⟩
        exact restore J0 b j1 j2 hb m5 m6 o5 o6
      | succ d ih =>
        intro i b hi hb m5 m6 o5 o6
        have i6 : i < 6 := by omega
        have hb : (b || ((gd (sX S i) && anyN (ckR S t n i) ((sR S t).length - n) n) || anyN (fun i => gd (sX S i) && anyN (ckR S t n i) ((sR S t).length - n) n) d (i + 1))) = unClR S t n := hb
        have hx : IxR J0 i (sX S i) := ixR_cg (fun c a1 a2 => j1 c (by omega) (by omega) (by omega) (by omega) (by omega) (by omega)) (r3 i i6)
        refine b_r_wouldClash_186 (inRn (by omega)) (inRn (by omega)) (inR_b01 _) (inRn (by omega)) o5 o6 ⟨fun z => absurd z (by omega), fun _ v ev _ => ?_⟩
        subst ev
        have inner : ∀ (l k : Nat) (b' : Bool), k + l = R.length → n ≤ k → ((b' || (gd (sX S i) && anyN (ckR S t n i) l k)) = (b || (gd (sX S i) && anyN (ckR S t n i) ((sR S t).length - n) n))) → GoA 180 196 [some (.inr (3, 0, 0)), some (.inl (1, (t : Int))), some (.inl (1, (n : Int))), some (.inl (1, b01 b')), some (.inl (1, (i : Int))), some (.inl (1, (k : Int))), m6] [] J0 (rZ K) := by
          intro l
          have next : ∀ (k : Nat) (b' : Bool), k ≤ 200 → b' = (b || (gd (sX S i) && anyN (ckR S t n i) ((sR S t).length - n) n)) → ∀ v : Int, v = wr ((i : Int) + 1) → GoA 180 186 [some (.inr (3, 0, 0)), some (.inl (1, (t : Int))), some (.inl (1, (n : Int))), some (.inl (1, b01 b')), some (.inl (1, v)), some (.inl (1, (k : Int))), m6] [] J0 (rZ K) := fun k b' hk eb v ev => by
            rw [wrn (i + 1) (by omega) (by omega)] at ev
            subst ev
            exact ih (i + 1) b' (by omega) (by rw [eb, Bool.or_assoc]; exact hb) _ _ (okO_s (okF_1 (inRn (by omega)) 1)) o6
          induction l with
          | zero =>
            intro k b' hk hnk he
            have he : (b' || (gd (sX S i) && false)) = _ := he
            rw [Bool.and_false, Bool.or_false] at he
            refine b_r_wouldClash_196 (inRn (by omega)) (inRn (by omega)) (inR_b01 _) (inRn (by omega)) (inRn (by omega)) o6 ?_
            rw [Int.toNat_natCast, x1J]
            exact ⟨by omega, fun _ v ev _ => next k b' (by omega) he v ev, fun z => absurd (by omega) z⟩
          | succ l ihl =>
            intro k b' hk hnk he
            have he : (b' || (gd (sX S i) && (ckR S t n i k || anyN (ckR S t n i) l (k + 1)))) = _ := he
            refine b_r_wouldClash_196 (inRn (by omega)) (inRn (by omega)) (inR_b01 _) (inRn (by omega)) (inRn (by omega)) o6 ?_
            rw [Int.toNat_natCast, x1J, Int.toNat_natCast, hx.1]
            refine ⟨by omega, fun z => absurd z (by omega), fun _ => ⟨fun z => absurd z (by omega), fun _ => ⟨fun z => absurd z (by omega), fun _ => ⟨by omega, fun zu v ev _ => next k b' (by omega) ?_ v ev, fun zu => ⟨by omega, ?_⟩⟩⟩⟩⟩
            · have g0 : gd (sX S i) = false := decide_eq_false (fun c => c.1 zu)
              rw [g0] at he ⊢
              rw [Bool.false_and, Bool.or_false] at he
              exact he
            obtain ⟨b1, b2, b3, b4', b5, b6, b7, b8⟩ := hx.2 zu
            rw [b4'.1, b1]
            refine ⟨fun zs => ⟨by omega, fun zq v ev _ => next k b' (by omega) ?_ v ev, fun zq => ⟨fun zb => ?_, fun zb v ev _ => next k b' (by omega) ?_ v ev⟩⟩, fun zs v ev _ => next k b' (by omega) ?_ v ev⟩
            · have g0 : gd (sX S i) = false := decide_eq_false (fun c => c.2.1 zq)
              rw [g0] at he ⊢
              rw [Bool.false_and, Bool.or_false] at he
              exact he
            · have eb : b' = false := by
                cases b' with
                | false => rfl
                | true => exact absurd zb (by decide)
              subst eb
              have g1 : gd (sX S i) = true := decide_eq_true ⟨zu, zq, zs⟩
              have wv : wr (200 * (t : Int) + (k : Int)) = ((200 * t + k : Nat) : Int) := wrn (200 * t + k) (by omega) (by omega)
              obtain ⟨⟨p, m, v⟩, hr⟩ : ∃ r, R[k]? = some r := ⟨_, List.getElem?_eq_getElem (by omega)⟩
              obtain ⟨q1, q2, _, _, _⟩ := x3 k p m v hr
              have pv : rd J0 220 (200 * t + k) = p := by rw [rd_of (j1 _ (by omega) (by omega) (by omega) (by omega) (by omega) (by omega)), q1]
              rw [wv, Int.toNat_natCast, pv]
              refine ⟨by omega, c_rclashOf i6 (sok_k hO i i6 zu) b2 q2 jw ?_⟩
              have ec : ckR S t n i k = decide (clOf (xK (sX S i)) w' p ≠ -1) := by
                unfold ckR plR
                rw [← hR, hr, hw']
              rw [ec, g1, Bool.true_and, Bool.false_or] at he
              refine ⟨fun zc v ev _ => ?_, fun zc v ev _ => ?_⟩
              · rw [wrn (k + 1) (by omega) (by omega)] at ev
                subst ev
                refine ihl (k + 1) false (by omega) (by omega) ?_
                rw [decide_eq_false (fun c => c zc), Bool.false_or] at he
                rw [g1, Bool.false_or, Bool.true_and, he]
              · rw [wrn (k + 1) (by omega) (by omega)] at ev
                subst ev
                refine ihl (k + 1) true (by omega) (by omega) ?_
                rw [decide_eq_true zc, Bool.true_or] at he
                rw [Bool.true_or, he, g1]
            · have eb : b' = true := by
                cases b' with
                | false => exact absurd rfl zb
                | true => rfl
              subst eb
              rw [Bool.true_or] at he
              exact he
            · have g0 : gd (sX S i) = false := decide_eq_false (fun c => zs c.2.2)
              rw [g0] at he ⊢
              rw [Bool.false_and, Bool.or_false] at he
              exact he
        have eL : (sR S t).length = R.length := by rw [hR]
        exact inner (R.length - n) n b (by omega) (Nat.le_refl _) (by rw [eL])
    exact loop 6 0 false (by omega) rfl
  -- undone on trial
  have trial : ∀ J0 : Mm, (∀ c, c ≠ 257 → c ≠ 258 → c ≠ 259 → J0 c = I c) → (∀ q, q < 320 → rd J0 258 q = rd I 216 q ∧ rd J0 259 q = rd I 217 q ∧ ∀ g, g < 4 → rd J0 257 (4 * q + g) = rd I 214 (4 * q + g)) → ∀ (m4 m5 m6 : Option AV), okO m4 → okO m5 → okO m6 → GoA 180 85 [some (.inr (3, 0, 0)), some (.inl (1, (t : Int))), some (.inl (1, (n : Int))), some (.inl (1, (R.length : Int) - 1)), m4, m5, m6] [] J0 (rZ K) := by
    intro J0 j1 j2
    have loop : ∀ (d k : Nat) (J : Mm), k = n + d → k ≤ R.length → (∀ c, c ≠ 214 → c ≠ 216 → c ≠ 217 → J c = J0 c) → RowR J (unRow (R.drop k).reverse (sW S)) → ∀ (m4 m5 m6 : Option AV), okO m4 → okO m5 → okO m6 → GoA 180 85 [some (.inr (3, 0, 0)), some (.inl (1, (t : Int))), some (.inl (1, (n : Int))), some (.inl (1, (k : Int) - 1)), m4, m5, m6] [] J (rZ K) := by
      intro d
      induction d with
      | zero =>
        intro k J hk hl h1 h2 m4 m5 m6 o4 o5 o6
        have ek : k = n := hk
        subst ek
        refine b_r_wouldClash_85 (inRn (by omega)) (inRn (by omega)) ⟨by omega, by omega⟩ o4 o5 o6 ⟨fun _ => ?_, fun z => absurd (by omega) z⟩
        rw [← hw'] at h2
        refine clashes J (fun c a1 a2 a3 a4 a5 a6 => by rw [h1 c a1 a2 a3, j1 c a4 a5 a6]) (fun q hq => ?_) h2 m5 m6 o5 o6
        rw [rd_of (h1 258 (by omega) (by omega) (by omega)), rd_of (h1 259 (by omega) (by omega) (by omega))]
        refine ⟨(j2 q hq).1, (j2 q hq).2.1, fun g hg => ?_⟩
        rw [rd_of (h1 257 (by omega) (by omega) (by omega))]
        exact (j2 q hq).2.2 g hg
      | succ d ih =>
        intro k J hk hl h1 h2 m4 m5 m6 o4 o5 o6
        obtain ⟨k', ek⟩ : ∃ k', k = k' + 1 := ⟨n + d, by omega⟩
        subst ek
        obtain ⟨⟨p, m, v⟩, hr⟩ : ∃ r, R[k']? = some r := ⟨_, List.getElem?_eq_getElem (by omega)⟩
        obtain ⟨q1, hp, q3, q4, q5⟩ := x3 k' p m v hr
        have cI : ∀ c, c ≠ 214 → c ≠ 216 → c ≠ 217 → c ≠ 257 → c ≠ 258 → c ≠ 259 → J c = I c := fun c a1 a2 a3 a4 a5 a6 => by rw [h1 c a1 a2 a3, j1 c a4 a5 a6]
        rw [show ((k' + 1 : Nat) : Int) - 1 = (k' : Int) by omega]
        refine b_r_wouldClash_85 (inRn (by omega)) (inRn (by omega)) (inRn (by omega)) o4 o5 o6 ⟨fun z => absurd z (by omega), fun _ v4 e4 _ => ?_⟩
        rw [wrn (200 * t + k') (by omega) (by omega)] at e4
        subst e4
        rw [Int.toNat_natCast, rd_of (cI 220 (by omega) (by omega) (by omega) (by omega) (by omega) (by omega)), q1]
        refine ⟨by omega, fun v5 e5 _ => ?_⟩
        subst e5
        rw [Int.toNat_natCast, rd_of (cI 221 (by omega) (by omega) (by omega) (by omega) (by omega) (by omega))]
        refine ⟨by omega, by omega, q5, fun L1 a1 => ⟨by omega, by omega, fun L2 a2 => ?_⟩⟩
        have z3 : rd L1 223 (200 * t + k') = v := by rw [a1, rd_wt_a _ _ _ _ (by omega), rd_of (cI 223 (by omega) (by omega) (by omega) (by omega) (by omega) (by omega)), q4]
        have iv : inR v := by rw [← q4]; exact rd_in _ _ _
        rw [z3] at a2
        have inner : ∀ (l f : Nat) (N : Mm), f + l = 4 → (∀ c, c ≠ 214 → N c = L2 c) → (∀ x, (x < 4 * p ∨ 4 * p + 4 ≤ x) → rd N 214 x = rd J 214 x) → (∀ g, g < f → rd N 214 (4 * p + g) = rd I 222 (4 * (200 * t + k') + g)) → GoA 180 139 [some (.inr (3, 0, 0)), some (.inl (1, (t : Int))), some (.inl (1, (n : Int))), some (.inl (1, (k' : Int))), some (.inl (1, ((200 * t + k' : Nat) : Int))), some (.inl (1, (p : Int))), some (.inl (1, (f : Int)))] [] N (rZ K) := by
          intro l
          induction l with
          | zero =>
            intro f N hf n1 n2 n3
            refine b_r_wouldClash_139 (inRn (by omega)) (inRn (by omega)) (inRn (by omega)) (inRn (by omega)) (inRn (by omega)) (inRn (by omega)) ⟨fun _ v3 e3 _ => ?_, fun z => absurd (by omega) z⟩
            rw [wrx (by omega) (by omega)] at e3
            have e3 : v3 = (k' : Int) - 1 := e3
            subst e3
            refine ih k' N (by omega) (by omega) (fun c b1 b2 b3 => by rw [n1 c b1, a2, wt_a _ _ _ _ b3, a1, wt_a _ _ _ _ b2, h1 c b1 b2 b3]) ?_ _ _ _ (okO_s (okF_1 (inRn (by omega)) 1)) (okO_s (okF_1 (inRn (by omega)) 1)) (okO_s (okF_1 (inRn (by omega)) 1))
            have er : (R.drop k').reverse = (R.drop (k' + 1)).reverse ++ [(p, m, v)] := by
              have hl' := (List.getElem?_eq_some_iff.mp hr).1
              rw [List.drop_eq_getElem_cons hl', List.reverse_cons]
              congr 2
              exact (List.getElem?_eq_some_iff.mp hr).2
            rw [er, unRow_snoc]
            have v6 : rd N 216 p = rd I 221 (200 * t + k') := by rw [rd_of (n1 _ (by omega)), a2, rd_wt_a _ _ _ _ (by omega), a1, rd_wt_s _ _ _ (rd_in _ _ _)]
            refine rowR_up hp h2 (by rw [n1 _ (by omega), a2, wt_a _ _ _ _ (by omega), a1, wt_a _ _ _ _ (by omega)]) (by rw [n1 _ (by omega), a2, wt_a _ _ _ _ (by omega), a1, wt_a _ _ _ _ (by omega)]) (fun q hq => ?_) ?_ (fun q hq => ?_) (by rw [v6]; exact q5) n2 ?_
            · rw [rd_of (n1 _ (by omega)), a2, rd_wt_k _ _ _ _ hq, a1, rd_wt_a _ _ _ _ (by omega)]
            · rw [rd_of (n1 _ (by omega)), a2, rd_wt_s _ _ _ iv]
            · rw [rd_of (n1 _ (by omega)), a2, rd_wt_a _ _ _ _ (by omega), a1, rd_wt_k _ _ _ _ hq]
            · show imR N 214 p = m
              rw [← q3]
              exact imG_cp v6 (fun g hg => n3 g (by omega))
          | succ l ihl =>
            intro f N hf n1 n2 n3
            refine b_r_wouldClash_139 (inRn (by omega)) (inRn (by omega)) (inRn (by omega)) (inRn (by omega)) (inRn (by omega)) (inRn (by omega)) ⟨fun z => absurd z (by omega), fun _ => ?_⟩
            have wv : wr (4 * ((200 * t + k' : Nat) : Int) + (f : Int)) = ((4 * (200 * t + k') + f : Nat) : Int) := wrn (4 * (200 * t + k') + f) (by omega) (by omega)
            have wu : wr (4 * (p : Int) + (f : Int)) = ((4 * p + f : Nat) : Int) := wrn (4 * p + f) (by omega) (by omega)
            rw [wv, wu, Int.toNat_natCast, Int.toNat_natCast]
            refine ⟨by omega, by omega, fun Q eQ v ev _ => ?_⟩
            rw [wrn (f + 1) (by omega) (by omega)] at ev
            subst ev
            have q7 : rd N 222 (4 * (200 * t + k') + f) = rd I 222 (4 * (200 * t + k') + f) := by rw [rd_of (n1 _ (by omega)), a2, rd_wt_a _ _ _ _ (by omega), a1, rd_wt_a _ _ _ _ (by omega), rd_of (cI 222 (by omega) (by omega) (by omega) (by omega) (by omega) (by omega))]
            rw [q7] at eQ
            refine ihl (f + 1) Q (by omega) (fun c hc => by rw [eQ, wt_a _ _ _ _ hc, n1 c hc]) (fun x hx => by rw [eQ, rd_wt_k _ _ _ _ (by omega), n2 x hx]) (fun g hg => ?_)
            by_cases c : g = f
            · subst c; rw [eQ, rd_wt_s _ _ _ (rd_in _ _ _)]
            · rw [eQ, rd_wt_k _ _ _ _ (by omega), n3 g (by omega)]
        exact inner 4 0 L2 (by omega) (fun _ _ => rfl) (fun x _ => by rw [a2, rd_wt_a _ _ _ _ (by omega), a1, rd_wt_a _ _ _ _ (by omega)]) (fun g hg => absurd hg (by omega))
    refine loop (R.length - n) R.length J0 (by omega) (Nat.le_refl _) (fun _ _ _ _ => rfl) ?_
    rw [List.drop_length]
    exact rowR_cg (fun c a1 a2 => j1 c (by omega) (by omega) (by omega)) r1
  -- put aside
  have aside : ∀ (d p : Nat) (J : Mm), p + d = 320 → (∀ c, c ≠ 257 → c ≠ 258 → c ≠ 259 → J c = I c) → (∀ q, q < p → rd J 258 q = rd I 216 q ∧ rd J 259 q = rd I 217 q ∧ ∀ g, g < 4 → rd J 257 (4 * q + g) = rd I 214 (4 * q + g)) → ∀ (m4 m5 m6 : Option AV), okO m4 → okO m5 → okO m6 → GoA 180 2 [some (.inr (3, 0, 0)), some (.inl (1, (t : Int))), some (.inl (1, (n : Int))), some (.inl (1, (p : Int))), m4, m5, m6] [] J (rZ K) := by
    intro d
    induction d with
    | zero =>
      intro p J hp h1 h2 m4 m5 m6 o4 o5 o6
      refine b_r_wouldClash_2 (inRn (by omega)) (inRn (by omega)) (inRn (by omega)) o4 o5 o6 ⟨fun _ => ⟨by omega, ?_⟩, fun z => absurd (by omega) z⟩
      rw [Int.toNat_natCast, rd_of (h1 219 (by omega) (by omega) (by omega)), x1]
      intro v ev _
      rw [wrx (by omega) (by omega)] at ev
      subst ev
      exact trial J h1 (fun q hq => h2 q (by omega)) m4 m5 m6 o4 o5 o6
    | succ d ih =>
      intro p J hp h1 h2 m4 m5 m6 o4 o5 o6
      have p3 : p < 320 := by omega
      obtain ⟨a1, a2, a3, a4, a5⟩ := r1 p p3
      refine b_r_wouldClash_2 (inRn (by omega)) (inRn (by omega)) (inRn (by omega)) o4 o5 o6 ⟨fun z => absurd z (by omega), fun _ => ?_⟩
      rw [Int.toNat_natCast, rd_of (h1 216 (by omega) (by omega) (by omega))]
      refine ⟨by omega, by omega, a5, fun L1 e1 => ⟨by omega, by omega, fun L2 e2 => ?_⟩⟩
      have z7 : rd L1 217 p = rd I 217 p := by rw [e1, rd_wt_a _ _ _ _ (by omega), rd_of (h1 217 (by omega) (by omega) (by omega))]
      rw [z7] at e2
      have inner : ∀ (l f : Nat) (N : Mm), f + l = 4 → (∀ c, c ≠ 257 → N c = L2 c) → (∀ x, (x < 4 * p ∨ 4 * p + 4 ≤ x) → rd N 257 x = rd J 257 x) → (∀ g, g < f → rd N 257 (4 * p + g) = rd I 214 (4 * p + g)) → GoA 180 36 [some (.inr (3, 0, 0)), some (.inl (1, (t : Int))), some (.inl (1, (n : Int))), some (.inl (1, (p : Int))), some (.inl (1, (f : Int))), m5, m6] [] N (rZ K) := by
        intro l
        induction l with
        | zero =>
          intro f N hf n1 n2 n3
          refine b_r_wouldClash_36 (inRn (by omega)) (inRn (by omega)) (inRn (by omega)) (inRn (by omega)) o5 o6 ⟨fun _ v ev _ => ?_, fun z => absurd (by omega) z⟩
          rw [wrn (p + 1) (by omega) (by omega)] at ev
          subst ev
          refine ih (p + 1) N (by omega) (fun c b1 b2 b3 => by rw [n1 c b1, e2, wt_a _ _ _ _ b3, e1, wt_a _ _ _ _ b2, h1 c b1 b2 b3]) (fun q hq => ?_) _ _ _ (okO_s (okF_1 (inRn (by omega)) 1)) o5 o6
          by_cases c : q = p
          · subst c
            exact ⟨by rw [rd_of (n1 _ (by omega)), e2, rd_wt_a _ _ _ _ (by omega), e1, rd_wt_s _ _ _ (rd_in _ _ _)], by rw [rd_of (n1 _ (by omega)), e2, rd_wt_s _ _ _ (rd_in _ _ _)], fun g hg => n3 g (by omega)⟩
          · obtain ⟨b1, b2, b3⟩ := h2 q (by omega)
            exact ⟨by rw [rd_of (n1 _ (by omega)), e2, rd_wt_a _ _ _ _ (by omega), e1, rd_wt_k _ _ _ _ c, b1], by rw [rd_of (n1 _ (by omega)), e2, rd_wt_k _ _ _ _ c, e1, rd_wt_a _ _ _ _ (by omega), b2], fun g hg => by rw [n2 _ (by omega), b3 g hg]⟩
        | succ l ihl =>
          intro f N hf n1 n2 n3
          refine b_r_wouldClash_36 (inRn (by omega)) (inRn (by omega)) (inRn (by omega)) (inRn (by omega)) o5 o6 ⟨fun z => absurd z (by omega), fun _ => ?_⟩
          have wv : wr (4 * (p : Int) + (f : Int)) = ((4 * p + f : Nat) : Int) := wrn (4 * p + f) (by omega) (by omega)
          rw [wv, Int.toNat_natCast]
          refine ⟨by omega, by omega, fun Q eQ v ev _ => ?_⟩
          rw [wrn (f + 1) (by omega) (by omega)] at ev
          subst ev
          have q7 : rd N 214 (4 * p + f) = rd I 214 (4 * p + f) := by rw [rd_of (n1 _ (by omega)), e2, rd_wt_a _ _ _ _ (by omega), e1, rd_wt_a _ _ _ _ (by omega), rd_of (h1 214 (by omega) (by omega) (by omega))]
          rw [q7] at eQ
          refine ihl (f + 1) Q (by omega) (fun c hc => by rw [eQ, wt_a _ _ _ _ hc, n1 c hc]) (fun x hx => by rw [eQ, rd_wt_k _ _ _ _ (by omega), n2 x hx]) (fun g hg => ?_)
          by_cases c : g = f
          · subst c; rw [eQ, rd_wt_s _ _ _ (rd_in _ _ _)]
          · rw [eQ, rd_wt_k _ _ _ _ (by omega), n3 g (by omega)]
      exact inner 4 0 L2 (by omega) (fun _ _ => rfl) (fun x _ => by rw [e2, rd_wt_a _ _ _ _ (by omega), e1, rd_wt_a _ _ _ _ (by omega)]) (fun g hg => absurd hg (by omega))
  refine callZ_of rfl (b_r_wouldClash (inRn (by omega)) (inRn (by omega)) ?_)
  exact aside 320 0 I (by omega) (fun _ _ _ _ => rfl) (fun q hq => absurd hq (by omega)) none none none okO_n okO_n okO_n
theorem suk_all {S : St} (hU : SUK S) {t : Nat} (ht : t < 8) (ha : sA S t = 1) : ∀ k i, i < 6 → tlOK (sX (sUnL ((sR S t).drop k).reverse S) i) := fun k i hi => by
  have := hU.1 t ht ha k ((sR S t).drop k).reverse.length i hi
  rw [List.take_length] at this
  exact this
theorem c_rundo {I : Mm} {K : Int → Mm → Prop} {S : St} {t n : Int} (it : inR t) (i_n : inR n) (hS : RSR I S) (hO : SOK S) (hU : SUK S) (hC : ∀ t n, t < 8 → sA S t = 1 → n ≤ (sR S t).length → unClR S t n = unCl S t n)
    (hK : ∀ J : Mm, LFr I J → RSR J (oUndo S t n).2 → K (oUndo S t n).1 J) : CallZ 178 [.inr (3, 0, 0), .inl (1, t), .inl (1, n)] I K := by
  unfold oUndo at hK
  refine callZ_of rfl (b_r_undo it i_n (r_act hS hO (fun hn => ?_) (fun tn e t8 a1 ha y0 y1 y2 => ?_)))
  · rw [if_pos hn] at hK; exact hK I (fun _ _ => rfl) hS
  rw [if_neg (fun c => c ha)] at hK
  subst e
  rw [Int.toNat_natCast] at hK ⊢
  rw [y1]
  refine ⟨by omega, fun z => ?_, fun z => ⟨fun z2 => ?_, fun z2 => ?_⟩⟩
  · rw [if_pos (Or.inl z)] at hK; exact hK I (fun _ _ => rfl) hS
  · rw [if_pos (Or.inr z2)] at hK; exact hK I (fun _ _ => rfl) hS
  rw [if_neg (by omega)] at hK
  obtain ⟨nn, hnn⟩ : ∃ nn : Nat, n = nn := ⟨n.toNat, by omega⟩
  subst hnn
  rw [Int.toNat_natCast] at hK
  unfold oUn2 at hK
  refine c_rwould hS hO t8 a1 (by omega) ?_
  intro J fJ hJ
  rw [hC tn nn t8 a1 (by omega)]
  cases hc : unCl S tn nn with
  | true =>
    rw [if_pos hc] at hK
    exact ⟨fun z => absurd z (by decide), fun _ => hK J fJ hJ⟩
  | false =>
    rw [if_neg (by rw [hc]; decide)] at hK
    refine ⟨fun _ => ?_, fun z => absurd rfl z⟩
    refine c_rundoTo hJ t8 a1 (by omega) (suk_all hU t8 a1) ?_
    intro L fL hL
    exact hK L (fun c hc => by rw [fL c hc, fJ c hc]) hL
theorem txR_off {I J : Mm} {S : St} {t : Nat} (e : J = wt I 218 t 0) (r2 : ∀ t', t' < 8 → TxR I t' (sA S t') (sR S t')) : ∀ t', t' < 8 → TxR J t' (upN (sA S) t 0 t') (sR S t') := fun t' ht' => by
  by_cases c : t' = t
  · subst c
    rw [upN_s]
    exact ⟨by rw [e, rd_wt_s _ _ _ ⟨by omega, by omega⟩], fun z => absurd rfl z⟩
  · rw [upN_o c]
    exact txR_up (t := t) c (by rw [e, rd_wt_k _ _ _ _ c]) (by rw [e, rd_wt_a _ _ _ _ (by omega)]) (fun r _ => ⟨by rw [e, rd_wt_a _ _ _ _ (by omega)], by rw [e, rd_wt_a _ _ _ _ (by omega)], by rw [e, rd_wt_a _ _ _ _ (by omega)], fun g _ => by rw [e, rd_wt_a _ _ _ _ (by omega)]⟩) (r2 t' ht')
theorem c_rabort {I : Mm} {K : Int → Mm → Prop} {S : St} {t : Int} (it : inR t) (hS : RSR I S) (hO : SOK S) (hU : SUK S)
    (hK : ∀ J : Mm, LFr I J → RSR J (oAbort S t).2 → K (oAbort S t).1 J) : CallZ 182 [.inr (3, 0, 0), .inl (1, t)] I K := by
  unfold oAbort at hK
  refine callZ_of rfl (b_r_abort it (r_act hS hO (fun hn => ?_) (fun tn e t8 a1 ha y0 y1 y2 => ?_)))
  · rw [if_pos hn] at hK; exact hK I (fun _ _ => rfl) hS
  rw [if_neg (fun c => c ha)] at hK
  subst e
  rw [Int.toNat_natCast] at hK ⊢
  refine callZ_fl (as' := [.inr (3, 0, 0), .inl (1, (tn : Int)), .inl (1, ((0 : Nat) : Int))]) rfl ?_
  refine c_rundoTo hS t8 a1 (Nat.zero_le _) (suk_all hU t8 a1) ?_
  intro J fJ hJ v ev _
  subst ev
  rw [Nat.sub_zero]
  refine ⟨by omega, fun L eL => ?_⟩
  obtain ⟨s1, s2, s3, s4, s5⟩ := hJ
  have g : ∀ c, c ≠ 218 → L c = J c := fun c hc => by rw [eL, wt_a _ _ _ _ hc]
  exact hK L (fun c hc => by rw [g c (by omega), fJ c hc]) ⟨rowR_cg (fun c h1 h2 => g c (by omega)) s1, txR_off (S := sUndo S tn 0) eL s2, ⟨cnOK_cg (g _ (by omega)) s3.1, fun i hi => ixR_cg (fun c h1 h2 => g c (by omega)) (s3.2 i hi)⟩, bdR_cg (g _ (by omega)) (g _ (by omega)) s4, qsR_cg (rd_of (g _ (by omega)) _) (rd_of (g _ (by omega)) _) (rd_of (g _ (by omega)) _) (g _ (by omega)) s5⟩
set_option maxHeartbeats 4000000 in
theorem c_rcommit {I : Mm} {K : Int → Mm → Prop} {S : St} {t : Int} (it : inR t) (hS : RSR I S) (hO : SOK S) (hU : SUK S)
    (hK : ∀ J : Mm, LFr I J → RSR J (oCommit S t).2 → K (oCommit S t).1 J) : CallZ 181 [.inr (3, 0, 0), .inl (1, t)] I K := by
  unfold oCommit at hK
  refine callZ_of rfl (b_r_commit it (r_act hS hO (fun hn => ?_) (fun tn e t8 a1 ha y0 y1 y2 => ?_)))
  · rw [if_pos hn] at hK; exact hK I (fun _ _ => rfl) hS
  rw [if_neg (fun c => c ha)] at hK
  subst e
  rw [Int.toNat_natCast] at hK
  have c320 := cCmL_le tn 320 0 S
  have loop : ∀ (d p n : Nat) (J : Mm) (Z : St) (m4 : Option AV), okO m4 → p + d = 320 → Z = sCmL tn p 0 S → n + cCmL tn d p Z = cCmL tn 320 0 S → LFr I J → RSR J Z → GoA 181 15 [some (.inr (3, 0, 0)), some (.inl (1, (tn : Int))), some (.inl (1, (n : Int))), some (.inl (1, (p : Int))), m4] [] J (rZ K) := by
    intro d
    induction d with
    | zero =>
      intro p n J Z m4 o4 hp hZ hn fJ hJ
      have hn' : n = cCmL tn 320 0 S := hn
      have p3 : p = 320 := by omega
      subst p3
      refine b_r_commit_15 (inRn (by omega)) (inRn (by omega)) (inRn (by omega)) o4 ⟨fun _ => ⟨by omega, ?_⟩, fun z => absurd (by omega) z⟩
      rw [Int.toNat_natCast]
      intro L eL
      have rest := sCmL_rest tn 320 0 S
      rw [← hZ] at rest
      rw [hn']
      obtain ⟨s1, s2, s3, s4, s5⟩ := hJ
      have g : ∀ c, c ≠ 218 → L c = J c := fun c hc => by rw [eL, wt_a _ _ _ _ hc]
      have hK1 := hK L (fun c hc => by rw [g c (by omega), fJ c hc])
      unfold sCommit at hK1
      rw [← hZ] at hK1
      refine hK1 ⟨rowR_cg (fun c h1 h2 => g c (by omega)) s1, ?_, ⟨cnOK_cg (g _ (by omega)) s3.1, fun i hi => ixR_cg (fun c h1 h2 => g c (by omega)) (s3.2 i hi)⟩, bdR_cg (g _ (by omega)) (g _ (by omega)) s4, qsR_cg (rd_of (g _ (by omega)) _) (rd_of (g _ (by omega)) _) (rd_of (g _ (by omega)) _) (g _ (by omega)) s5⟩
      refine txR_off (S := S) eL (fun t' ht' => ?_)
      have s2' := s2 t' ht'
      have ea : sA Z t' = sA S t' := by unfold sA; rw [rest.1]
      have er : sR Z t' = sR S t' := by unfold sR; rw [rest.1]
      rw [ea, er] at s2'
      exact s2'
    | succ d ih =>
      intro p n J Z m4 o4 hp hZ hn fJ hJ
      have p3 : p < 320 := by omega
      have hn : n + ((if (sW Z).2.2 p = tn then 1 else 0) + cCmL tn d (p + 1) (if (sW Z).2.2 p = tn then sCm1 Z p else Z)) = cCmL tn 320 0 S := hn
      have hZ1 : (if (sW Z).2.2 p = tn then sCm1 Z p else Z) = sCmL tn (p + 1) 0 S := by
        rw [sCmL_app tn p 1 0 S, Nat.zero_add, ← hZ]
        rfl
      have hJ0 := hJ
      obtain ⟨s1, s2, ⟨s0, s3⟩, s4, s5⟩ := hJ
      obtain ⟨w1, w2, w3, w4, w5⟩ := s1 p p3
      refine b_r_commit_15 (inRn (by omega)) (inRn (by omega)) (inRn (by omega)) o4 ⟨fun z => absurd z (by omega), fun _ => ⟨by omega, ?_⟩⟩
      rw [Int.toNat_natCast, w3]
      refine ⟨fun z => ?_, fun z v ev _ => ?_⟩
      · rw [if_pos z] at hn hZ1
        rw [if_pos z] at hn
        refine c_keepBefore p3 w4 w5 ?_
        intro I2 k1 k2 k3 k4 k5 k6
        rw [rd_of (k1 216 (by omega) (by omega))]
        refine ⟨by omega, by omega, w5, fun I3 e3 => ?_⟩
        have inner : ∀ (l f : Nat) (N : Mm), f + l = 4 → (∀ c, c ≠ 213 → N c = I3 c) → (∀ x, (x < 4 * p ∨ 4 * p + 4 ≤ x) → rd N 213 x = rd J 213 x) → (∀ g, g < f → rd N 213 (4 * p + g) = rd J 214 (4 * p + g)) → GoA 181 52 [some (.inr (3, 0, 0)), some (.inl (1, (tn : Int))), some (.inl (1, (n : Int))), some (.inl (1, (p : Int))), some (.inl (1, (f : Int)))] [] N (rZ K) := by
          intro l
          induction l with
          | zero =>
            intro f N hf n1 n2 n3
            refine b_r_commit_52 (inRn (by omega)) (inRn (by omega)) (inRn (by omega)) (inRn (by omega)) ⟨fun _ => ⟨by omega, ?_⟩, fun z => absurd (by omega) z⟩
            rw [Int.toNat_natCast]
            intro I4 e4
            have cJ : ∀ c, c ≠ 212 → c ≠ 213 → c ≠ 215 → c ≠ 217 → c ≠ 255 → I4 c = J c := fun c a1 a2 a3 a4 a5 => by rw [e4, wt_a _ _ _ _ a4, n1 c a2, e3, wt_a _ _ _ _ a3, k1 c a1 a5]
            have q5 : ∀ q, rd I4 215 q = if q = p then rd J 216 p else rd J 215 q := fun q => by
              rw [e4, rd_wt_a _ _ _ _ (by omega), rd_of (n1 _ (by omega)), e3]
              by_cases c : q = p
              · subst c; rw [if_pos rfl, rd_wt_s _ _ _ (rd_in _ _ _)]
              · rw [if_neg c, rd_wt_k _ _ _ _ c, rd_of (k1 _ (by omega) (by omega))]
            have q3 : ∀ x, rd I4 213 x = rd N 213 x := fun x => by rw [e4, rd_wt_a _ _ _ _ (by omega)]
            have q7 : ∀ q, rd I4 217 q = if q = p then -1 else rd J 217 q := fun q => by
              rw [e4]
              by_cases c : q = p
              · subst c; rw [if_pos rfl, rd_wt_s _ _ _ ⟨by omega, by omega⟩]
              · rw [if_neg c, rd_wt_k _ _ _ _ c, rd_of (n1 _ (by omega)), e3, rd_wt_a _ _ _ _ (by omega), rd_of (k1 _ (by omega) (by omega))]
            have s4' : ∀ k, rd I4 212 k = rd I2 212 k := fun k => by rw [e4, rd_wt_a _ _ _ _ (by omega), rd_of (n1 _ (by omega)), e3, rd_wt_a _ _ _ _ (by omega)]
            have b4' : ∀ k, rd I4 255 k = rd I2 255 k := fun k => by rw [e4, rd_wt_a _ _ _ _ (by omega), rd_of (n1 _ (by omega)), e3, rd_wt_a _ _ _ _ (by omega)]
            have row4 : RowR I4 (upN (sW Z).1 p ((sW Z).2.1 p), (sW Z).2.1, upN (sW Z).2.2 p (-1)) := fun q hq => by
              obtain ⟨a1, a2, a3, a4, a5⟩ := s1 q hq
              refine ⟨?_, by rw [imR_cg (cJ _ (by omega) (by omega) (by omega) (by omega) (by omega)) (cJ _ (by omega) (by omega) (by omega) (by omega) (by omega))]; exact a2, ?_, ?_, by rw [rd_of (cJ _ (by omega) (by omega) (by omega) (by omega) (by omega))]; exact a5⟩
              · show imR I4 213 q = upN (sW Z).1 p ((sW Z).2.1 p) q
                by_cases c : q = p
                · subst c
                  rw [upN_s, ← w2]
                  exact imG_cp (by show rd I4 215 q = rd J 216 q; rw [q5, if_pos rfl]) (fun g hg => by rw [q3, n3 g (by omega)])
                · rw [upN_o c, ← a1]
                  exact imG_cp (by show rd I4 215 q = rd J 215 q; rw [q5, if_neg c]) (fun g hg => by rw [q3, n2 _ (by omega)])
              · show rd I4 217 q = upN (sW Z).2.2 p (-1) q
                by_cases c : q = p
                · subst c; rw [upN_s, q7, if_pos rfl]
                · rw [upN_o c, q7, if_neg c]; exact a3
              · rw [q5]
                by_cases c : q = p
                · rw [if_pos c]; exact w5
                · rw [if_neg c]; exact a4
            have ix4 : ∀ i, i < 6 → IxR I4 i (sX Z i) := fun i hi => ixR_cg (fun c b1 b2 => cJ c (by omega) (by omega) (by omega) (by omega) (by omega)) (s3 i hi)
            have cn4 : cnOK I4 := cnOK_cg (cJ _ (by omega) (by omega) (by omega) (by omega) (by omega)) s0
            have bJ0 : imB I4 0 = (sW Z).1 p := by
              rw [← w1, ← k3]
              exact imG_cp (s4' _) (fun g _ => b4' _)
            have bJ1 : imB I4 1 = (sW Z).2.1 p := by
              rw [← w2, ← k4]
              exact imG_cp (s4' _) (fun g _ => b4' _)
            refine c_changed (X := sX Z) (rep := (sW Z).1 p) p3 row4 cn4 ix4 (fun i hi => by rw [hZ]; exact hU.2.1 tn t8 a1 p i (by omega) hi) (Or.inr ⟨?_, ?_, bJ0⟩) ?_
            · show imB I4 1 = upN (sW Z).1 p ((sW Z).2.1 p) p
              rw [upN_s]; exact bJ1
            · show (sW Z).2.1 p = upN (sW Z).1 p ((sW Z).2.1 p) p
              rw [upN_s]
            intro J' fA cJ' hX' v2 ev2 _ v3 ev3 _
            rw [wrn (n + 1) (by omega) (by omega)] at ev2
            rw [wrn (p + 1) (by omega) (by omega)] at ev3
            subst ev2; subst ev3
            have jc : ∀ c, 213 ≤ c → c ≤ 223 → J' c = I4 c := fun c b1 b2 => fA.1 c (by omega)
            refine ih (p + 1) (n + 1) J' (sCm1 Z p) _ (okO_s (okF_1 (inRn (by omega)) 1)) (by omega) hZ1 (by omega) (fun c hc => by rw [fA.1 c (by omega), cJ c (by omega) (by omega) (by omega) (by omega) (by omega), fJ c hc]) ⟨rowR_cg (fun c b1 b2 => jc c (by omega) (by omega)) row4, fun t' ht' => txR_cg (I := J) (fun c b1 b2 => by rw [jc c (by omega) (by omega), cJ c (by omega) (by omega) (by omega) (by omega) (by omega)]) (s2 t' ht'), ⟨cJ', hX'⟩, bdR_cg ?_ ?_ s4, qsR_cg ?_ ?_ ?_ ?_ s5⟩
            · rw [fA.1 _ (by omega), cJ _ (by omega) (by omega) (by omega) (by omega) (by omega)]
            · rw [fA.1 _ (by omega), cJ _ (by omega) (by omega) (by omega) (by omega) (by omega)]
            · rw [fA.2 _ (by omega) (by omega) (by omega), s4', k2 _ (by omega) (by omega)]
            · rw [fA.2 _ (by omega) (by omega) (by omega), s4', k2 _ (by omega) (by omega)]
            · rw [fA.2 _ (by omega) (by omega) (by omega), s4', k2 _ (by omega) (by omega)]
            · rw [fA.1 _ (by omega), cJ _ (by omega) (by omega) (by omega) (by omega) (by omega)]
          | succ l ihl =>
            intro f N hf n1 n2 n3
            refine b_r_commit_52 (inRn (by omega)) (inRn (by omega)) (inRn (by omega)) (inRn (by omega)) ⟨fun z => absurd z (by omega), fun _ => ?_⟩
            have wv : wr (4 * (p : Int) + (f : Int)) = ((4 * p + f : Nat) : Int) := wrn (4 * p + f) (by omega) (by omega)
            rw [wv, Int.toNat_natCast]
            refine ⟨by omega, by omega, fun Q eQ v ev _ => ?_⟩
            rw [wrn (f + 1) (by omega) (by omega)] at ev
            subst ev
            have q7 : rd N 214 (4 * p + f) = rd J 214 (4 * p + f) := by rw [rd_of (n1 _ (by omega)), e3, rd_wt_a _ _ _ _ (by omega), rd_of (k1 _ (by omega) (by omega))]
            rw [q7] at eQ
            refine ihl (f + 1) Q (by omega) (fun c hc => by rw [eQ, wt_a _ _ _ _ hc, n1 c hc]) (fun x hx => by rw [eQ, rd_wt_k _ _ _ _ (by omega), n2 x hx]) (fun g hg => ?_)
            by_cases c : g = f
            · subst c; rw [eQ, rd_wt_s _ _ _ (rd_in _ _ _)]
            · rw [eQ, rd_wt_k _ _ _ _ (by omega), n3 g (by omega)]
        exact inner 4 0 I3 (by omega) (fun _ _ => rfl) (fun x _ => by rw [e3, rd_wt_a _ _ _ _ (by omega), rd_of (k1 _ (by omega) (by omega))]) (fun g hg => absurd hg (by omega))
      · rw [if_neg z] at hn hZ1
        rw [if_neg z] at hn
        rw [wrn (p + 1) (by omega) (by omega)] at ev
        subst ev
        exact ih (p + 1) n J Z m4 o4 (by omega) hZ1 (by omega) fJ hJ0
  exact loop 320 0 0 I S none okO_n (by omega) rfl (by omega) (fun _ _ => rfl) hS
