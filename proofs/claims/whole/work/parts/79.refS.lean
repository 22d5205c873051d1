/-! THE REFERENCE: catch, step -/
theorem lgE_of {I J : Mm} {k : Nat} (h : ∀ s, 3 * k ≤ s → s < 3 * k + 3 → rd J 235 s = rd I 235 s) (h2 : rd J 236 k = rd I 236 k) : lgE J k = lgE I k := by
  unfold lgE
  rw [h _ (by omega) (by omega), h _ (by omega) (by omega), h _ (by omega) (by omega), h2]
set_option maxHeartbeats 4000000 in
theorem c_rcatch1 {I : Mm} {K : Mm → Prop} {i fa : Nat} {x : Ix} {c0 : Int} {e0 : E} {L : List (Int × E)} (hi : i < 6) (hU : xU x = 1) (hk : (xK x).1 ≤ 3) (hS : xS x = 3) (hx : IxR I i x) (hL : xL x = (c0, e0) :: L) (hg : good (xT x)) (hl : (lsT (xT x)).length ≤ 647)
    (hK : ∀ J : Mm, XFrR I J i → IxR J i (xCatch x) → cnOK J → K J) : CallV 189 [.inr (3, 0, 0), .inl (fa, (i : Int))] I K := by
  obtain ⟨b1, b2, b3, b4, b5, b6, b7, b8⟩ := hx.2 (by omega)
  obtain ⟨l1, l2, l3⟩ := b7
  rw [hL] at l1 l2 l3
  have gl : ((c0, e0) :: L).length = L.length + 1 := rfl
  rw [gl] at l1 l2
  obtain ⟨m1, m2, m3⟩ := l3 0 c0 e0 rfl
  rw [Nat.add_zero] at m1 m2
  have xc : xCatch x = setL (setT x (stepT c0 e0 (xT x))) L := by unfold xCatch; rw [hL]
  rw [xc] at hK
  have ic0 : inR c0 := by rcases m3 with h | h <;> rw [h] <;> exact ⟨by omega, by omega⟩
  -- after the shift: the tree
  have fin : ∀ (J : Mm), XFrR I J i → (∀ c, c ≠ 212 → c ≠ 250 → c ≠ 233 → c ≠ 234 → c ≠ 235 → c ≠ 236 → J c = I c) → atE J = e0 → LogR J i L → (c0 = 0 → CallV 154 [.inr (3, 0, 0), .inl (1, (i : Int))] J (fun I1 => (rV K) none I1)) ∧ (¬ c0 = 0 → CallV 152 [.inr (3, 0, 0), .inl (1, (i : Int))] J (fun I2 => (rV K) none I2)) := by
    intro J f0 f1 fa1 fL
    have hT : TreeR J i (xT x) := treeR_of (fun c h1 h2 => f1 c (by omega) (by omega) (by omega) (by omega) (by omega) (by omega)) b6
    have done : ∀ J2 : Mm, FrR J J2 i → TreeR J2 i (stepT c0 e0 (xT x)) → K J2 := fun J2 g1 g2 => by
      have c2 := treeR_c g2
      have q2 : ∀ c s, 224 ≤ c → c ≤ 240 → rd J2 c s = rd J c s := fun c s h1 h2 => rd_of (g1.1 c (by omega) (by omega) (by omega) (by omega) (by omega) (by omega) (by omega) (by omega) (by omega) (by omega)) s
      have q3 : ∀ c s, 224 ≤ c → c ≤ 240 → c ≠ 233 → c ≠ 234 → c ≠ 235 → c ≠ 236 → rd J2 c s = rd I c s := fun c s h1 h2 h3 h4 h5 h6 => by rw [q2 c s h1 h2, rd_of (f1 c (by omega) (by omega) h3 h4 h5 h6)]
      refine hK J2 (xFrR_tr f0 (xFrR_fr hi g1 c2)) ?_ c2
      refine ixR_ch (x := x) (y := setL (setT x (stepT c0 e0 (xT x))) L) hx hU hk (q3 _ _ (by omega) (by omega) (by omega) (by omega) (by omega) (by omega)) (q3 _ _ (by omega) (by omega) (by omega) (by omega) (by omega) (by omega)) (q3 _ _ (by omega) (by omega) (by omega) (by omega) (by omega) (by omega)) (fun j _ => q3 _ _ (by omega) (by omega) (by omega) (by omega) (by omega) (by omega)) rfl rfl ⟨by rw [q3 _ _ (by omega) (by omega) (by omega) (by omega) (by omega) (by omega)]; exact b4.1, by rw [q3 _ _ (by omega) (by omega) (by omega) (by omega) (by omega) (by omega)]; exact b4.2⟩ ⟨by rw [q3 _ _ (by omega) (by omega) (by omega) (by omega) (by omega) (by omega)]; exact b5.1, by rw [q3 _ _ (by omega) (by omega) (by omega) (by omega) (by omega) (by omega)]; exact b5.2.1, by rw [q3 _ _ (by omega) (by omega) (by omega) (by omega) (by omega) (by omega)]; exact b5.2.2⟩ g2 (logR_eq' (fun c s h1 h2 => q2 c s (by omega) (by omega)) fL) (fun h12 => ?_)
      have h12 : xS x = 1 ∨ xS x = 2 := h12
      omega
    refine ⟨fun z => ?_, fun z => ?_⟩
    · refine c_goes hi hT hg (by omega) ?_
      intro J2 g1 g2
      rw [fa1] at g2
      exact done J2 g1 (by unfold stepT; rw [if_pos z]; exact g2)
    · refine c_comes hi hT hg (by omega) ?_
      intro J2 g1 g2
      rw [fa1] at g2
      exact done J2 g1 (by unfold stepT; rw [if_neg z]; exact g2)
  -- the shift
  have shift : ∀ (d m : Nat) (J : Mm) (m5 : Option AV), okO m5 → m + d = L.length → XFrR I J i → (∀ c, c ≠ 212 → c ≠ 250 → c ≠ 233 → c ≠ 234 → c ≠ 235 → c ≠ 236 → J c = I c) → atE J = e0 → rd J 233 i = (L.length : Int) → (∀ j, j < m → rd J 234 (300 * i + j) = rd I 234 (300 * i + j + 1) ∧ lgE J (300 * i + j) = lgE I (300 * i + j + 1)) → (∀ j, m ≤ j → rd J 234 (300 * i + j) = rd I 234 (300 * i + j) ∧ lgE J (300 * i + j) = lgE I (300 * i + j)) → GoA 189 78 [some (.inr (3, 0, 0)), some (.inl (1, (i : Int))), some (.inl (1, ((300 * i : Nat) : Int))), some (.inl (1, c0)), some (.inl (1, ((300 * i + m : Nat) : Int))), m5] [] J (rV K) := by
    intro d
    induction d with
    | zero =>
      intro m J m5 o5 hm f0 f1 fa1 f3 f4 f5
      have wv : wr (((300 * i : Nat) : Int) + (L.length : Int)) = ((300 * i + L.length : Nat) : Int) := wrn _ (by omega) (by omega)
      refine b_r_catchStep_78 (inRn (by omega)) (inRn (by omega)) ic0 (inRn (by omega)) o5 ⟨by omega, ?_⟩
      rw [Int.toNat_natCast, f3, wv]
      refine ⟨fun _ => fin J f0 f1 fa1 ⟨f3, by omega, fun j c e hj => ?_⟩, fun z => absurd (by omega) z⟩
      have jl := (List.getElem?_eq_some_iff.mp hj).1
      obtain ⟨y1, y2⟩ := f4 j (by omega)
      rw [y1, y2]
      exact l3 (j + 1) c e hj
    | succ d ih =>
      intro m J m5 o5 hm f0 f1 fa1 f3 f4 f5
      have wv : wr (((300 * i : Nat) : Int) + (L.length : Int)) = ((300 * i + L.length : Nat) : Int) := wrn _ (by omega) (by omega)
      obtain ⟨q, eq⟩ : ∃ q, q = 300 * i + m := ⟨_, rfl⟩
      rw [← eq]
      have q18 : q + 1 < 1800 := by omega
      have w1 : wr ((q : Int) + 1) = ((q + 1 : Nat) : Int) := wrn _ (by omega) (by omega)
      refine b_r_catchStep_78 (inRn (by omega)) (inRn (by omega)) ic0 (inRn (by omega)) o5 ⟨by omega, ?_⟩
      rw [Int.toNat_natCast, f3, wv, w1]
      simp only [Int.toNat_natCast]
      refine ⟨fun z => absurd z (by omega), fun _ => ⟨by omega, by omega, ?_, fun J1 e1 => ⟨by omega, by omega, fun J2 e2 => ?_⟩⟩⟩
      · obtain ⟨⟨c, e⟩, hce⟩ : ∃ y, L[m]? = some y := ⟨_, List.getElem?_eq_getElem (by omega)⟩
        obtain ⟨y1, y2, y3⟩ := l3 (m + 1) c e hce
        have := (f5 (m + 1) (by omega)).1
        rw [show q + 1 = 300 * i + (m + 1) by omega, this, y1]
        exact y3
      · have v1 : rd J1 236 (q + 1) = rd J 236 (q + 1) := by rw [e1, rd_wt_a _ _ _ _ (by omega)]
        rw [v1] at e2
        have x2 : XFrR I J2 i := xFrR_tr f0 (xFrR_tr (show XFrR J J1 i by rw [e1]; exact xFrR_wt (by omega) (by omega) (ow_234 (by omega) (by omega))) (show XFrR J1 J2 i by rw [e2]; exact xFrR_wt (by omega) (by omega) (ow_236 (by omega) (by omega))))
        have g0 : ∀ c, c ≠ 234 → c ≠ 236 → J2 c = J c := fun c h1 h2 => by rw [e2, wt_a _ _ _ _ h2, e1, wt_a _ _ _ _ h1]
        have mv : ∀ (d' j : Nat) (M : Mm), j + d' = 3 → (∀ c, c ≠ 235 → M c = J2 c) → XFrR I M i → (∀ s, ¬ (3 * q ≤ s ∧ s < 3 * q + 3) → rd M 235 s = rd J 235 s) → (∀ r, r < j → rd M 235 (3 * q + r) = rd J 235 (3 * (q + 1) + r)) → GoA 189 126 [some (.inr (3, 0, 0)), some (.inl (1, (i : Int))), some (.inl (1, ((300 * i : Nat) : Int))), some (.inl (1, c0)), some (.inl (1, (q : Int))), some (.inl (1, (j : Int)))] [] M (rV K) := by
          intro d'
          induction d' with
          | zero =>
            intro j M hj g1 g2 g3 g4
            refine b_r_catchStep_126 (inRn (by omega)) (inRn (by omega)) ic0 (inRn (by omega)) (inRn (by omega)) ⟨fun _ v ev _ => ?_, fun z => absurd (by omega) z⟩
            rw [wrn (300 * i + (m + 1)) (by omega) (by omega)] at ev
            subst ev
            have r0 := g4 0 (by omega)
            simp only [Nat.add_zero] at r0
            have v4 : ∀ s, rd M 234 s = if s = q then rd J 234 (q + 1) else rd J 234 s := fun s => by
              rw [rd_of (g1 234 (by omega)), e2, rd_wt_a _ _ _ _ (by omega), e1]
              by_cases c : s = q
              · rw [if_pos c, c, rd_wt_s _ _ _ (rd_in _ _ _)]
              · rw [if_neg c, rd_wt_k _ _ _ _ c]
            have v6 : ∀ s, rd M 236 s = if s = q then rd J 236 (q + 1) else rd J 236 s := fun s => by
              rw [rd_of (g1 236 (by omega)), e2]
              by_cases c : s = q
              · rw [if_pos c, c, rd_wt_s _ _ _ (rd_in _ _ _)]
              · rw [if_neg c, rd_wt_k _ _ _ _ c, e1, rd_wt_a _ _ _ _ (by omega)]
            have mvd : lgE M q = lgE J (q + 1) := by
              unfold lgE
              rw [r0, g4 1 (by omega), g4 2 (by omega), v6 q, if_pos rfl]
            have oth : ∀ r, r ≠ q → lgE M r = lgE J r := fun r hr => lgE_of (fun s s1 s2 => g3 s (by omega)) (by rw [v6, if_neg hr])
            refine ih (m + 1) M _ (okO_s (okF_1 (inRn (by omega)) 1)) (by omega) g2 (fun c h1 h2 h3 h4 h5 h6 => by rw [g1 c h5, g0 c h4 h6, f1 c h1 h2 h3 h4 h5 h6]) ?_ (by rw [rd_of (g1 233 (by omega)), rd_of (g0 233 (by omega) (by omega)), f3]) (fun j' hj' => ?_) (fun j' hj' => ?_)
            · rw [← fa1]
              unfold atE
              rw [rd_of (g1 250 (by omega)), rd_of (g0 250 (by omega) (by omega)), rd_of (g1 250 (by omega)), rd_of (g0 250 (by omega) (by omega)), rd_of (g1 250 (by omega)), rd_of (g0 250 (by omega) (by omega)), rd_of (g1 212 (by omega)), rd_of (g0 212 (by omega) (by omega))]
            · by_cases c : j' = m
              · subst c
                rw [← eq, v4, if_pos rfl, mvd]
                have := f5 (j' + 1) (by omega)
                rw [← Nat.add_assoc, ← eq] at this
                exact this
              · rw [v4, if_neg (by omega), oth _ (by omega)]
                exact f4 j' (by omega)
            · rw [v4, if_neg (by omega), oth _ (by omega)]
              exact f5 j' (by omega)
          | succ d' ihd =>
            intro j M hj g1 g2 g3 g4
            have wa : wr (3 * (q : Int) + 3 + (j : Int)) = ((3 * (q + 1) + j : Nat) : Int) := wrn _ (by omega) (by omega)
            have wb : wr (3 * (q : Int) + (j : Int)) = ((3 * q + j : Nat) : Int) := wrn _ (by omega) (by omega)
            refine b_r_catchStep_126 (inRn (by omega)) (inRn (by omega)) ic0 (inRn (by omega)) (inRn (by omega)) ⟨fun z => absurd z (by omega), fun _ => ?_⟩
            rw [wa, wb, Int.toNat_natCast, Int.toNat_natCast]
            refine ⟨by omega, by omega, fun L2 e2' v ev _ => ?_⟩
            rw [wrn (j + 1) (by omega) (by omega)] at ev
            subst ev
            refine ihd (j + 1) L2 (by omega) (fun c hc => by rw [e2', wt_a _ _ _ _ hc, g1 c hc]) (xFrR_tr g2 (by rw [e2']; exact xFrR_wt (by omega) (by omega) (ow_235 (by omega) (by omega)))) (fun s hs => by rw [e2', rd_wt_k _ _ _ _ (by omega), g3 s hs]) (fun r hr => ?_)
            by_cases c : r = j
            · subst c; rw [e2', rd_wt_s _ _ _ (rd_in _ _ _), g3 _ (by omega)]
            · rw [e2', rd_wt_k _ _ _ _ (by omega), g4 r (by omega)]
        exact mv 3 0 J2 (by omega) (fun _ _ => rfl) x2 (fun s _ => by rw [rd_of (g0 235 (by omega) (by omega))]) (fun r hr => absurd hr (by omega))
  -- the entry is read
  have rdk : ∀ (d j : Nat) (J : Mm), j + d = 3 → (∀ c, c ≠ 250 → J c = I c) → (∀ r, r < j → rd J 250 r = rd I 235 (3 * (300 * i) + r)) → GoA 189 25 [some (.inr (3, 0, 0)), some (.inl (1, (i : Int))), some (.inl (1, ((300 * i : Nat) : Int))), some (.inl (1, c0)), some (.inl (1, (j : Int))), none] [] J (rV K) := by
    intro d
    induction d with
    | zero =>
      intro j J hj g1 g4
      refine b_r_catchStep_25 (inRn (by omega)) (inRn (by omega)) ic0 (inRn (by omega)) okO_n ⟨fun _ => ⟨by omega, fun I1 e1 => ⟨by omega, by omega, fun I2 e2 v ev _ => ?_⟩⟩, fun z => absurd (by omega) z⟩
      rw [Int.toNat_natCast] at e1 e2
      subst ev
      have q1 : ∀ c, c ≠ 250 → c ≠ 212 → I1 c = I c := fun c h1 h2 => by rw [e1, wt_a _ _ _ _ h2, g1 c h1]
      rw [rd_of (q1 233 (by omega) (by omega)), l1] at e2
      have r0 := g4 0 (by omega)
      rw [Nat.add_zero] at r0
      have x1 : XFrR I I1 i := xFrR_sc (fun c h1 h2 _ _ _ _ => q1 c h2 h1) (fun k' h1 _ _ => by rw [e1, rd_wt_k _ _ _ _ h1, rd_of (g1 212 (by omega))])
      refine shift L.length 0 I2 none okO_n (by omega) (xFrR_tr x1 (by rw [e2]; exact xFrR_wt (by omega) (by omega) (ow_d rfl (by omega) (by omega) (by omega) (by omega) (by omega) (by omega)))) (fun c h1 h2 h3 h4 h5 h6 => by rw [e2, wt_a _ _ _ _ h3, q1 c h2 h1]) ?_ (by rw [e2, rd_wt_s _ _ _ ⟨by omega, by omega⟩]; omega) (fun j' hj' => absurd hj' (by omega)) (fun j' _ => ⟨?_, lgE_of (fun s _ _ => ?_) ?_⟩)
      · rw [← m2]
        unfold atE lgE
        rw [e2, rd_wt_a _ _ _ _ (by omega), rd_wt_a _ _ _ _ (by omega), rd_wt_a _ _ _ _ (by omega), rd_wt_a _ _ _ _ (by omega), e1, rd_wt_a _ _ _ _ (by omega), rd_wt_a _ _ _ _ (by omega), rd_wt_a _ _ _ _ (by omega), rd_wt_s _ _ _ (rd_in _ _ _), r0, g4 1 (by omega), g4 2 (by omega), rd_of (g1 236 (by omega))]
      · rw [e2, rd_wt_a _ _ _ _ (by omega), rd_of (q1 234 (by omega) (by omega))]
      · rw [e2, rd_wt_a _ _ _ _ (by omega), rd_of (q1 235 (by omega) (by omega))]
      · rw [e2, rd_wt_a _ _ _ _ (by omega), rd_of (q1 236 (by omega) (by omega))]
    | succ d ih =>
      intro j J hj g1 g4
      have wb : wr (3 * ((300 * i : Nat) : Int) + (j : Int)) = ((3 * (300 * i) + j : Nat) : Int) := wrn _ (by omega) (by omega)
      refine b_r_catchStep_25 (inRn (by omega)) (inRn (by omega)) ic0 (inRn (by omega)) okO_n ⟨fun z => absurd z (by omega), fun _ => ?_⟩
      rw [wb, Int.toNat_natCast, Int.toNat_natCast]
      refine ⟨by omega, by omega, fun L2 e2' v ev _ => ?_⟩
      rw [wrn (j + 1) (by omega) (by omega)] at ev
      subst ev
      refine ih (j + 1) L2 (by omega) (fun c hc => by rw [e2', wt_a _ _ _ _ hc, g1 c hc]) (fun r hr => ?_)
      by_cases c : r = j
      · subst c; rw [e2', rd_wt_s _ _ _ (rd_in _ _ _), rd_of (g1 235 (by omega))]
      · rw [e2', rd_wt_k _ _ _ _ c, g4 r (by omega)]
  refine callV_fl (as' := [.inr (3, 0, 0), .inl (1, (i : Int))]) rfl ?_
  refine callV_of rfl (b_r_catchStep (inRn (by omega)) ⟨by omega, ?_⟩)
  have l1' : rd I 233 ((i : Int)).toNat = ((L.length + 1 : Nat) : Int) := by rw [Int.toNat_natCast]; exact l1
  rw [l1']
  refine ⟨fun z => absurd z (by omega), fun _ v ev _ => ?_⟩
  rw [wrn (300 * i) (by omega) (by omega)] at ev
  subst ev
  rw [Int.toNat_natCast, m1]
  refine ⟨by omega, fun v3 ev3 _ => ?_⟩
  subst ev3
  exact rdk 3 0 I (by omega) (fun _ _ => rfl) (fun r hr => absurd hr (by omega))
set_option maxHeartbeats 4000000 in
theorem c_rcatch0 {I : Mm} {K : Mm → Prop} {i fa : Nat} {x : Ix} {w : Rw} (hi : i < 6) (hc : cnOK I) (hU : xU x = 1) (hk : kyOK (xK x)) (hx : IxR I i x) (hL : (xL x).length = 0) (hw : RowR I w)
    (hK : ∀ J : Mm, XFrR I J i → IxR J i (xFin w x) → cnOK J → K J) : CallV 189 [.inr (3, 0, 0), .inl (fa, (i : Int))] I K := by
  obtain ⟨b1, b2, b3, b4, b5, b6, b7, b8⟩ := hx.2 (by omega)
  refine callV_fl (as' := [.inr (3, 0, 0), .inl (1, (i : Int))]) rfl ?_
  refine callV_of rfl (b_r_catchStep (inRn (by omega)) ⟨by omega, ?_⟩)
  have l1' : rd I 233 ((i : Int)).toNat = 0 := by rw [Int.toNat_natCast, b7.1, hL]; rfl
  rw [l1']
  refine ⟨fun _ => ⟨by omega, fun I1 e1 => ?_⟩, fun z => absurd (by decide) z⟩
  rw [Int.toNat_natCast] at e1
  have q : ∀ c s, c ≠ 228 → rd I1 c s = rd I c s := fun c s h => by rw [e1, rd_wt_a _ _ _ _ h]
  have qc : ∀ c, c ≠ 228 → I1 c = I c := fun c h => by rw [e1, wt_a _ _ _ _ h]
  have x1 : XFrR I I1 i := by rw [e1]; exact xFrR_wt (by omega) (by omega) (ow_d rfl (by omega) (by omega) (by omega) (by omega) (by omega) (by omega))
  have hc1 : cnOK I1 := cnOK_cg (qc _ (by omega)) hc
  have hw1 : RowR I1 w := rowR_cg (fun c h1 h2 => qc c (by omega)) hw
  have hx1 : IxR I1 i (setS x 4) := ixR_ch (x := x) (y := setS x 4) hx hU hk.2.1 (q _ _ (by omega)) (q _ _ (by omega)) (q _ _ (by omega)) (fun j _ => q _ _ (by omega)) rfl rfl ⟨by rw [e1, rd_wt_s _ _ _ ⟨by omega, by omega⟩]; rfl, by rw [q _ _ (by omega)]; exact b4.2⟩ ⟨by rw [q _ _ (by omega)]; exact b5.1, by rw [q _ _ (by omega)]; exact b5.2.1, by rw [q _ _ (by omega)]; exact b5.2.2⟩ (treeR_of (fun c h1 h2 => qc c (by omega)) b6) (logR_eq' (fun c s' h1 h2 => q c s' (by omega)) b7) (fun h12 => absurd (show (4 : Int) = 1 ∨ (4 : Int) = 2 from h12) (by decide))
  have kq : kyR I1 i (xK x) := kyR_eq hk.2.1 (q _ _ (by omega)) (fun j _ => q _ _ (by omega)) b2
  have v7 : rd I1 227 i = xQ x := by rw [q _ _ (by omega)]; exact b1
  have v8 : rd I1 228 i = 4 := by rw [e1, rd_wt_s _ _ _ ⟨by omega, by omega⟩]
  have loop : ∀ (d p : Nat) (m3 : Option AV), okO m3 → p + d = 320 → (¬ xQ x = 0 → ff (fun p => decide (clOf (xK x) w p ≠ -1)) d p = clAny (xK x) w) → GoA 189 197 [some (.inr (3, 0, 0)), some (.inl (1, (i : Int))), some (.inl (1, (p : Int))), m3, none, none] [] I1 (rV K) := by
    intro d
    induction d with
    | zero =>
      intro p m3 o3 hp hf
      refine b_r_catchStep_197 (inRn (by omega)) (inRn (by omega)) o3 okO_n okO_n ⟨fun _ => ?_, fun z => absurd (by omega) z⟩
      refine hK I1 x1 ?_ hc1
      unfold xFin
      by_cases c : xQ x = 0
      · rw [if_pos c]; exact hx1
      · have hf : (-1 : Int) = clAny (xK x) w := hf c
        rw [if_neg c, if_pos hf.symm]; exact hx1
    | succ d ih =>
      intro p m3 o3 hp hf
      refine b_r_catchStep_197 (inRn (by omega)) (inRn (by omega)) o3 okO_n okO_n ⟨fun z => absurd z (by omega), fun _ => ⟨by omega, ?_⟩⟩
      simp only [Int.toNat_natCast]
      rw [v7, v8]
      refine ⟨fun c => ?_, fun c => ⟨by omega, fun _ => ?_, fun z => absurd rfl z⟩⟩
      · refine hK I1 x1 ?_ hc1
        unfold xFin
        rw [if_pos c]; exact hx1
      · have hf : (if decide (clOf (xK x) w p ≠ -1) = true then (p : Int) else ff (fun p => decide (clOf (xK x) w p ≠ -1)) d (p + 1)) = clAny (xK x) w := hf c
        refine c_rclashOf hi hk kq (by omega) hw1 ?_
        intro v ev iv
        subst ev
        refine ⟨fun z v2 ev2 _ => ?_, fun z => ?_⟩
        · rw [wrn (p + 1) (by omega) (by omega)] at ev2
          subst ev2
          rw [if_neg (by rw [decide_eq_true_eq]; exact fun h => h z)] at hf
          exact ih (p + 1) _ (okO_s (okF_1 iv 1)) (by omega) (fun _ => hf)
        · rw [if_pos (decide_eq_true z)] at hf
          refine callV_fl (as' := [.inr (3, 0, 0), .inl (1, (i : Int)), .inl (1, 1)]) rfl ?_
          refine c_rfail (x := setS x 4) hi hc1 hU ⟨by omega, by omega⟩ hx1 ?_
          intro J2 f1 f2 f3
          refine ⟨by omega, fun J3 e3 => ⟨by omega, fun J4 e4 v2 ev2 _ => ?_⟩⟩
          rw [wrn (p + 1) (by omega) (by omega)] at ev2
          subst ev2
          obtain ⟨d1, d2, d3, d4, d5, d6, d7, d8⟩ := f2.2 (by show ¬ xU x = 0; omega)
          have q4 : ∀ c s, c ≠ 231 → c ≠ 232 → rd J4 c s = rd J2 c s := fun c s h1 h2 => by rw [e4, rd_wt_a _ _ _ _ h2, e3, rd_wt_a _ _ _ _ h1]
          have qc4 : ∀ c, c ≠ 231 → c ≠ 232 → J4 c = J2 c := fun c h1 h2 => by rw [e4, wt_a _ _ _ _ h2, e3, wt_a _ _ _ _ h1]
          have y8 : rd J4 228 i = 5 := by rw [q4 _ _ (by omega) (by omega)]; exact d4.1
          have y7 : ¬ rd J4 227 i = 0 := by rw [q4 _ _ (by omega) (by omega), d1]; exact c
          have fx : xFin w x = xFail x (1, clAny (xK x) w, clOf (xK x) w (clAny (xK x) w).toNat) := by
            unfold xFin
            rw [if_neg c, if_neg (by rw [← hf]; omega)]
          have done : K J4 := by
            refine hK J4 (xFrR_tr x1 (xFrR_tr f1 (xFrR_tr (show XFrR J2 J3 i by rw [e3]; exact xFrR_wt (by omega) (by omega) (ow_d (Int.toNat_natCast i) (by omega) (by omega) (by omega) (by omega) (by omega) (by omega))) (show XFrR J3 J4 i by rw [e4]; exact xFrR_wt (by omega) (by omega) (ow_d (Int.toNat_natCast i) (by omega) (by omega) (by omega) (by omega) (by omega) (by omega)))))) ?_ (cnOK_cg (qc4 _ (by omega) (by omega)) f3)
            rw [fx, ← hf, Int.toNat_natCast]
            exact ixR_ch (x := xFail (setS x 4) (1, (xW (setS x 4)).2)) (y := xFail x (1, (p : Int), clOf (xK x) w p)) f2 hU hk.2.1 (q4 _ _ (by omega) (by omega)) (q4 _ _ (by omega) (by omega)) (q4 _ _ (by omega) (by omega)) (fun j _ => q4 _ _ (by omega) (by omega)) rfl rfl ⟨y8, by rw [q4 _ _ (by omega) (by omega)]; exact d4.2⟩ ⟨by rw [q4 _ _ (by omega) (by omega)]; exact d5.1, by rw [e4, rd_wt_a _ _ _ _ (by omega), e3, rd_wt_s _ _ _ (inRn (by omega))]; rfl, by rw [e4, rd_wt_s _ _ _ iv]; rfl⟩ (treeR_of (fun c h1 h2 => qc4 c (by omega) (by omega)) d6) (logR_eq' (fun c s' h1 h2 => q4 c s' (by omega) (by omega)) d7) (fun h12 => absurd (show (5 : Int) = 1 ∨ (5 : Int) = 2 from h12) (by decide))
          refine b_r_catchStep_197 (inRn (by omega)) (inRn (by omega)) (okO_s (okF_1 iv 1)) okO_n okO_n ⟨fun _ => done, fun _ => ⟨by omega, ?_⟩⟩
          simp only [Int.toNat_natCast]
          rw [y8]
          exact ⟨fun _ => done, fun _ => ⟨by omega, fun z => absurd z (by decide), fun _ => done⟩⟩
  exact loop 320 0 none okO_n (by omega) (fun _ => rfl)
/-- one step -/
theorem c_rstep1 {I : Mm} {K : Mm → Prop} {i fa : Nat} {x : Ix} {w : Rw} (hi : i < 6) (hc : cnOK I) (hU : xU x = 1) (hx : IxR I i x) (hk : stOK x) (hw : RowR I w) (h1 : 1 ≤ xS x) (h4 : xS x < 4)
    (hK : ∀ J : Mm, XFrR I J i → IxR J i (xStep w x) → cnOK J → K J) : (xS x = 1 → CallV 187 [.inr (3, 0, 0), .inl (fa, (i : Int))] I K) ∧ (xS x = 2 → CallV 188 [.inr (3, 0, 0), .inl (fa, (i : Int))] I K) ∧ (¬ xS x = 1 → ¬ xS x = 2 → CallV 189 [.inr (3, 0, 0), .inl (fa, (i : Int))] I K) := by
  obtain ⟨k1, k2, k3, k4, k5, k6⟩ := hk
  unfold xStep at hK
  refine ⟨fun z => ?_, fun z => ?_, fun z1 z2 => ?_⟩
  · rw [if_pos z] at hK
    exact c_rscan hi hc hU hx k1 hw z (k5 z).1 (k5 z).2.1 (k5 z).2.2 hK
  · rw [if_neg (by omega), if_pos z] at hK
    exact c_rload hi hc hU k1.2.1 z hx k2 (k6 z) hK
  · rw [if_neg z1, if_neg z2, if_pos (by omega)] at hK
    by_cases c : (xL x).length = 0
    · rw [if_pos c] at hK
      exact c_rcatch0 hi hc hU k1 hx c hw hK
    · rw [if_neg c] at hK
      cases e : xL x with
      | nil => rw [e] at c; exact absurd rfl c
      | cons y L => exact c_rcatch1 (c0 := y.1) (e0 := y.2) hi hU k1.2.1 (by omega) hx e k2 k3 hK
/-- a state of building is 1 or more -/
def SS1 (S : St) : Prop := ∀ i, i < 6 → xU (sX S i) = 1 → ∀ n, 1 ≤ xS (stN (sW S) n (sX S i))
set_option maxHeartbeats 1000000 in
theorem c_rstep {I : Mm} {K : Int → Mm → Prop} {S : St} {i n : Int} (ii : inR i) (i_n : inR n) (hS : RSR I S) (hO : SOK S) (hT : SSK S) (h1 : SS1 S)
    (hK : ∀ J : Mm, LFr I J → RSR J (oStep S i n).2 → K (oStep S i n).1 J) : CallZ 190 [.inr (3, 0, 0), .inl (1, i), .inl (1, n)] I K := by
  unfold oStep at hK
  refine callZ_of rfl (b_r_step ii i_n (r_ix hS hO (fun hn => ?_) (fun m e n6 hI u2 k1 g1 l1 p1 hx => ?_)))
  · rw [if_pos hn] at hK; exact hK I (fun _ _ => rfl) hS
  · rw [if_neg (fun c => c hI)] at hK
    subst e
    rw [Int.toNat_natCast] at hK
    refine ⟨fun z => ?_, fun z => ⟨fun z2 => ?_, fun z2 => ?_⟩⟩
    · rw [if_pos (Or.inl z)] at hK; exact hK I (fun _ _ => rfl) hS
    · rw [if_pos (Or.inr z2)] at hK; exact hK I (fun _ _ => rfl) hS
    · rw [if_neg (by omega)] at hK
      obtain ⟨nn, hnn⟩ : ∃ nn : Nat, n = nn := ⟨n.toNat, by omega⟩
      subst hnn
      rw [Int.toNat_natCast] at hK
      have loop : ∀ (d k : Nat) (J : Mm), k + d = nn → XFrR I J m → cnOK J → IxR J m (stN (sW S) k (sX S m)) → GoA 190 27 [some (.inr (3, 0, 0)), some (.inl (1, (m : Int))), some (.inl (1, (nn : Int))), some (.inl (1, (k : Int)))] [] J (rZ K) := by
        intro d
        induction d with
        | zero =>
          intro k J hk hF hc hxJ
          have : k = nn := by omega
          subst this
          have hU := (hT m n6 u2 k).2.1
          refine b_r_step_27 ii i_n (inRn (by omega)) ⟨fun _ => ⟨by omega, ?_⟩, fun z => absurd (by omega) z⟩
          rw [Int.toNat_natCast, (hxJ.2 (by omega)).2.2.2.1.1]
          have := rsr_x hO hF hxJ hc hS
          exact hK J this.2 this.1
        | succ d ih =>
          intro k J hk hF hc hxJ
          have hU := (hT m n6 u2 k).2.1
          have hst := (hT m n6 u2 k).1
          have rS := (hxJ.2 (by omega)).2.2.2.1.1
          have s1 := h1 m n6 u2 k
          refine b_r_step_27 ii i_n (inRn (by omega)) ⟨fun z => absurd z (by omega), fun _ => ⟨by omega, ?_⟩⟩
          rw [Int.toNat_natCast, rS]
          refine ⟨fun z => ⟨by omega, ?_⟩, fun z => ⟨by omega, ?_⟩⟩
          · have e : stN (sW S) nn (sX S m) = stN (sW S) k (sX S m) := by rw [show nn = k + (d + 1) by omega, stN_add, stN_ge _ (by omega)]
            rw [e] at hK
            have := rsr_x hO hF hxJ hc hS
            exact hK J this.2 this.1
          · have hwJ : RowR J (sW S) := rowR_cg (fun c c1 c2 => hF.1 c (by omega)) hS.1
            have nx : ∀ J1 : Mm, XFrR J J1 m → IxR J1 m (xStep (sW S) (stN (sW S) k (sX S m))) → cnOK J1 → ∀ v3, v3 = wr ((k : Int) + 1) → inR v3 → GoA 190 27 [some (.inr (3, 0, 0)), some (.inl (1, (m : Int))), some (.inl (1, (nn : Int))), some (.inl (1, v3))] [] J1 (rZ K) := fun J1 f1 f2 f3 v3 e3 _ => by
              rw [wrn (k + 1) (by omega) (by omega)] at e3
              subst e3
              refine ih (k + 1) J1 (by omega) (xFrR_tr hF f1) f3 ?_
              rw [stN_succ, if_pos (by omega)]
              exact f2
            obtain ⟨t1, t2, t3⟩ := c_rstep1 (fa := 1) n6 hc hU hxJ hst hwJ s1 (by omega) nx
            exact ⟨t1, fun y1 => ⟨by omega, t2, fun y2 => t3 y1 y2⟩⟩
      exact loop nn 0 I (by omega) (xFrR_rfl I m) hS.2.2.1.1 hx
