/-! THE REFERENCE: picks and steps -/
theorem ixR_ch {I J : Mm} {i : Nat} {x y : Ix} (hx : IxR I i x) (hU : xU x = 1) (hk : (xK x).1 ≤ 3) (h4 : rd J 224 i = rd I 224 i) (h7 : rd J 227 i = rd I 227 i) (h5 : rd J 225 i = rd I 225 i) (h6 : ∀ j, j < 3 → rd J 226 (3 * i + j) = rd I 226 (3 * i + j)) (e1 : y.1 = x.1) (e2 : y.2.1 = x.2.1)
    (hS : rd J 228 i = xS y ∧ rd J 229 i = xP y) (hW : rd J 230 i = (xW y).1 ∧ rd J 231 i = (xW y).2.1 ∧ rd J 232 i = (xW y).2.2) (hT : TreeR J i (xT y)) (hL : LogR J i (xL y)) (hG : PkR J i (xS y) (xG y)) : IxR J i y := by
  obtain ⟨a, b⟩ := hx
  obtain ⟨b1, b2, b3, b4, b5, b6, b7, b8⟩ := b (by omega)
  have eU : xU y = xU x := by unfold xU; rw [e1]
  have eQ : xQ y = xQ x := by unfold xQ; rw [e1]
  have eK : xK y = xK x := by unfold xK; rw [e2]
  have eF : xF y = xF x := by unfold xF; rw [e2]
  refine ⟨by rw [h4, eU]; exact a, fun _ => ⟨by rw [h7, eQ]; exact b1, by rw [eK]; exact kyR_eq hk h5 h6 b2, ?_, hS, hW, hT, hL, hG⟩⟩
  rw [eF]
  have q0 := h6 0 (by omega)
  have q1 := h6 1 (by omega)
  have q2 := h6 2 (by omega)
  rw [Nat.add_zero] at q0
  rw [q0, q1, q2]
  exact b3
theorem logR_eq' {I J : Mm} {i : Nat} {L : List (Int × E)} (h : ∀ c s, 233 ≤ c → c ≤ 236 → rd J c s = rd I c s) (hL : LogR I i L) : LogR J i L := ⟨by rw [h _ _ (by omega) (by omega)]; exact hL.1, hL.2.1, fun j c e hj => by
  obtain ⟨q1, q2, q3⟩ := hL.2.2 j c e hj
  refine ⟨by rw [h _ _ (by omega) (by omega)]; exact q1, ?_, q3⟩
  unfold lgE
  rw [h _ _ (by omega) (by omega), h _ _ (by omega) (by omega), h _ _ (by omega) (by omega), h _ _ (by omega) (by omega)]
  exact q2⟩
theorem insL_insG2 {e : E} : ∀ {G : List E} {n : Nat}, srtG G → n ≤ G.length → (∀ j g, j < n → G[j]? = some g → ¬ elt e g) → (∀ j g, n ≤ j → G[j]? = some g → elt e g) → insL G n e = insG e G
  | [], n, _, hn, _, _ => by
    have : n = 0 := by simpa using hn
    subst this
    rfl
  | g :: G, 0, _, _, _, h => by
    show e :: g :: G = (if ecmp g e < 0 then g :: insG e G else e :: g :: G)
    have := h 0 g (by omega) rfl
    rw [if_neg (fun z => elt_irr _ (elt_trans this ((ecmp_neg _ _).mp z)))]
  | g :: G, n + 1, hs, hn, h1, h2 => by
    have hc := List.pairwise_cons.mp hs
    show g :: insL G n e = (if ecmp g e < 0 then g :: insG e G else e :: g :: G)
    have ih := insL_insG2 (e := e) (G := G) (n := n) hc.2 (by simpa using hn) (fun j y hj hy => h1 (j + 1) y (by omega) hy) (fun j y hj hy => h2 (j + 1) y (by omega) hy)
    rw [ih]
    by_cases c : ecmp g e < 0
    · rw [if_pos c]
    · rw [if_neg c]
      have ge : g = e := by
        rcases elt_tri g e with h | h | h
        · exact absurd ((ecmp_neg _ _).mpr h) c
        · exact h
        · exact absurd h (h1 0 g (by omega) rfl)
      subst ge
      congr 1
      cases G with
      | nil => rfl
      | cons y ys =>
        show (if ecmp y g < 0 then y :: insG g ys else g :: y :: ys) = g :: y :: ys
        rw [if_neg (fun z => hc.1 y List.mem_cons_self ((ecmp_neg _ _).mp z))]
theorem c_isBefore {I : Mm} {K : Int → Mm → Prop} {k fa : Nat} (hk : k < 3840) (h0 : ¬ elt (atE I) (pkE I k) → K 0 I) (h1 : elt (atE I) (pkE I k) → K 1 I) : CallZ 186 [.inr (3, 0, 0), .inl (fa, (k : Int))] I K := by
  have E : elt (atE I) (pkE I k) ↔ (rd I 250 0 < rd I 239 (3 * k) ∨ (rd I 250 0 = rd I 239 (3 * k) ∧ (rd I 250 1 < rd I 239 (3 * k + 1) ∨ (rd I 250 1 = rd I 239 (3 * k + 1) ∧ (rd I 250 2 < rd I 239 (3 * k + 2) ∨ (rd I 250 2 = rd I 239 (3 * k + 2) ∧ rd I 212 41 < rd I 240 k)))))) := Iff.rfl
  have loop : ∀ (d j : Nat), j + d = 3 → (∀ q, q < j → rd I 250 q = rd I 239 (3 * k + q)) → GoA 186 2 [some (.inr (3, 0, 0)), some (.inl (1, (k : Int))), some (.inl (1, (j : Int)))] [] I (rZ K) := by
    intro d
    induction d with
    | zero =>
      intro j hj hq
      have a0 := hq 0 (by omega)
      have a1 := hq 1 (by omega)
      have a2 := hq 2 (by omega)
      rw [Nat.add_zero] at a0
      refine b_r_isBefore_2 (inRn (by omega)) (inRn (by omega)) ⟨fun _ => ⟨by omega, ?_⟩, fun z => absurd (by omega) z⟩
      rw [Int.toNat_natCast]
      exact ⟨fun z => h0 (fun c => by have := E.mp c; omega), fun z => h1 (E.mpr (by omega))⟩
    | succ d ih =>
      intro j hj hq
      have wv : wr (3 * (k : Int) + (j : Int)) = ((3 * k + j : Nat) : Int) := wrn _ (by omega) (by omega)
      refine b_r_isBefore_2 (inRn (by omega)) (inRn (by omega)) ⟨fun z => absurd z (by omega), fun _ => ⟨by omega, ?_⟩⟩
      rw [wv, Int.toNat_natCast, Int.toNat_natCast]
      refine ⟨by omega, fun z v ev _ => ?_, fun z => ⟨by omega, by omega, ?_⟩⟩
      · rw [wrn (j + 1) (by omega) (by omega)] at ev
        subst ev
        refine ih (j + 1) (by omega) (fun q hq' => ?_)
        by_cases c : q = j
        · subst c; exact z
        · exact hq q (by omega)
      · have hj3 : j = 0 ∨ j = 1 ∨ j = 2 := by omega
        rcases hj3 with e | e | e
        · subst e
          rw [Nat.add_zero] at z ⊢
          exact ⟨fun z2 => h0 (fun c => by have := E.mp c; omega), fun z2 => h1 (E.mpr (by omega))⟩
        · subst e
          have a0 := hq 0 (by omega)
          rw [Nat.add_zero] at a0
          exact ⟨fun z2 => h0 (fun c => by have := E.mp c; omega), fun z2 => h1 (E.mpr (by omega))⟩
        · subst e
          have a0 := hq 0 (by omega)
          have a1 := hq 1 (by omega)
          rw [Nat.add_zero] at a0
          exact ⟨fun z2 => h0 (fun c => by have := E.mp c; omega), fun z2 => h1 (E.mpr (by omega))⟩
  refine callZ_fl (as' := [.inr (3, 0, 0), .inl (1, (k : Int))]) rfl ?_
  exact callZ_of rfl (b_r_isBefore (inRn (by omega)) (loop 3 0 (by omega) (fun q hq => absurd hq (by omega))))
theorem pkE_of {I J : Mm} {k : Nat} (h : ∀ s, 3 * k ≤ s → s < 3 * k + 3 → rd J 239 s = rd I 239 s) (h2 : rd J 240 k = rd I 240 k) : pkE J k = pkE I k := by
  unfold pkE
  rw [h _ (by omega) (by omega), h _ (by omega) (by omega), h _ (by omega) (by omega), h2]
set_option maxHeartbeats 2000000 in
theorem c_rpick {I : Mm} {K : Mm → Prop} {i fa : Nat} {x : Ix} (hi : i < 6) (hU : xU x = 1) (hk : (xK x).1 ≤ 3) (hx : IxR I i x) (hS : xS x = 1) (hst : srtG (xG x)) (hl : (xG x).length < 640)
    (hK : ∀ J : Mm, XFrR I J i → (∀ c, c ≠ 237 → c ≠ 239 → c ≠ 240 → J c = I c) → IxR J i (setG x (insG (atE I) (xG x))) → K J) : CallV 185 [.inr (3, 0, 0), .inl (fa, (i : Int))] I K := by
  have hx0 := hx
  obtain ⟨a, b⟩ := hx
  obtain ⟨b1, b2, b3, b4, b5, b6, b7, b8⟩ := b (by omega)
  rw [hS] at b8
  obtain ⟨tk, t0, t1, t2, t3, t4⟩ := b8 (Or.inl rfl)
  have tk0 : tk = 0 := t0 rfl
  subst tk0
  obtain ⟨e, he⟩ : ∃ e, e = atE I := ⟨_, rfl⟩
  obtain ⟨G, hG⟩ : ∃ G, G = xG x := ⟨_, rfl⟩
  rw [← hG] at t2 t4 hst hl hK
  rw [← he] at hK
  -- the entry is laid at its place
  have put : ∀ (m : Nat) (J : Mm), m ≤ G.length → (∀ c, c ≠ 237 → c ≠ 239 → c ≠ 240 → J c = I c) → XFrR I J i → rd J 237 i = ((G.length + 1 : Nat) : Int) → (∀ j, j < m → pkE J (640 * i + j) = pkE I (640 * i + j)) → (∀ j, m ≤ j → j < G.length → pkE J (640 * i + j + 1) = pkE I (640 * i + j)) → insL G m e = insG e G → ∀ m1, okO m1 → GoA 185 99 [some (.inr (3, 0, 0)), m1, some (.inl (1, ((640 * i + m : Nat) : Int))), some (.inl (1, ((0 : Nat) : Int)))] [] J (rV K) := by
    intro m J hm f1 f2 f3 f4 f5 f6 m1 om1
    obtain ⟨k, ek⟩ : ∃ k, k = 640 * i + m := ⟨_, rfl⟩
    rw [← ek]
    have k38 : k < 3840 := by omega
    have lp : ∀ (d j : Nat) (L : Mm), j + d = 3 → (∀ c, c ≠ 239 → L c = J c) → XFrR I L i → (∀ s, ¬ (3 * k ≤ s ∧ s < 3 * k + 3) → rd L 239 s = rd J 239 s) → (∀ r, r < j → rd L 239 (3 * k + r) = rd J 250 r) → GoA 185 99 [some (.inr (3, 0, 0)), m1, some (.inl (1, (k : Int))), some (.inl (1, (j : Int)))] [] L (rV K) := by
      intro d
      induction d with
      | zero =>
        intro j L hj g1 g2 g3 g4
        refine b_r_pick_99 om1 (inRn (by omega)) (inRn (by omega)) ⟨fun _ => ⟨by omega, fun J4 e4 => ?_⟩, fun z => absurd (by omega) z⟩
        rw [Int.toNat_natCast] at e4
        have e9 : ∀ s, rd J4 239 s = rd L 239 s := fun s => by rw [e4, rd_wt_a _ _ _ _ (by omega)]
        have q1 : ∀ c, c ≠ 237 → c ≠ 239 → c ≠ 240 → J4 c = I c := fun c c1 c2 c3 => by rw [e4, wt_a _ _ _ _ c3, g1 c c2, f1 c c1 c2 c3]
        have atk : pkE J4 k = e := by
          have r0 := g4 0 (by omega)
          rw [Nat.add_zero] at r0
          unfold pkE
          rw [e9, e9, e9, r0, g4 1 (by omega), g4 2 (by omega), e4, rd_wt_s _ _ _ (rd_in _ _ _), rd_of (g1 212 (by omega)), rd_of (f1 212 (by omega) (by omega) (by omega)), rd_of (f1 250 (by omega) (by omega) (by omega)), rd_of (f1 250 (by omega) (by omega) (by omega)), rd_of (f1 250 (by omega) (by omega) (by omega)), he]
          rfl
        have oth : ∀ r, r ≠ k → pkE J4 r = pkE J r := fun r hr => pkE_of (fun s s1 s2 => by rw [e9, g3 s (by omega)]) (by rw [e4, rd_wt_k _ _ _ _ hr, rd_of (g1 240 (by omega))])
        refine hK J4 (xFrR_tr g2 (by rw [e4]; exact xFrR_wt (by omega) (by omega) (ow_240 (by omega) (by omega)))) q1 ?_
        have r7 : rd J4 237 i = ((G.length + 1 : Nat) : Int) := by rw [e4, rd_wt_a _ _ _ _ (by omega), rd_of (g1 237 (by omega)), f3]
        have q2 : ∀ c s, c ≠ 237 → c ≠ 239 → c ≠ 240 → rd J4 c s = rd I c s := fun c s c1 c2 c3 => rd_of (q1 c c1 c2 c3) s
        refine ixR_ch (y := setG x (insG e G)) hx0 hU hk (q2 _ _ (by omega) (by omega) (by omega)) (q2 _ _ (by omega) (by omega) (by omega)) (q2 _ _ (by omega) (by omega) (by omega)) (fun j _ => q2 _ _ (by omega) (by omega) (by omega)) rfl rfl ⟨by rw [q2 _ _ (by omega) (by omega) (by omega)]; exact b4.1, by rw [q2 _ _ (by omega) (by omega) (by omega)]; exact b4.2⟩ ⟨by rw [q2 _ _ (by omega) (by omega) (by omega)]; exact b5.1, by rw [q2 _ _ (by omega) (by omega) (by omega)]; exact b5.2.1, by rw [q2 _ _ (by omega) (by omega) (by omega)]; exact b5.2.2⟩ (treeR_of (fun c c1 c2 => q1 c (by omega) (by omega) (by omega)) b6) (logR_eq' (fun c s c1 c2 => q2 c s (by omega) (by omega) (by omega)) b7) ?_
        show PkR J4 i (xS x) (insG e G)
        intro _
        refine ⟨0, fun _ => rfl, by rw [insG_len]; omega, by rw [r7, insG_len, Nat.zero_add], by rw [q2 _ _ (by omega) (by omega) (by omega)]; exact t3, fun j g hj => ?_⟩
        rw [Nat.add_zero]
        rw [← f6] at hj
        by_cases c : j < m
        · rw [insL_lo hm c] at hj
          rw [oth _ (by omega), f4 j c]
          exact t4 j g hj
        · by_cases c2 : j = m
          · subst c2
            rw [insL_at hm] at hj
            cases hj
            rw [← ek]
            exact atk
          · obtain ⟨j', rfl⟩ : ∃ j', j = j' + 1 := ⟨j - 1, by omega⟩
            rw [insL_hi hm (by omega)] at hj
            have jl := (List.getElem?_eq_some_iff.mp hj).1
            rw [oth _ (by omega), show 640 * i + (j' + 1) = 640 * i + j' + 1 by omega, f5 j' (by omega) jl]
            exact t4 j' g hj
      | succ d ih =>
        intro j L hj g1 g2 g3 g4
        have wv : wr (3 * (k : Int) + (j : Int)) = ((3 * k + j : Nat) : Int) := wrn _ (by omega) (by omega)
        refine b_r_pick_99 om1 (inRn (by omega)) (inRn (by omega)) ⟨fun z => absurd z (by omega), fun _ => ⟨by omega, ?_⟩⟩
        rw [wv, Int.toNat_natCast, Int.toNat_natCast]
        refine ⟨by omega, fun L2 e2 v ev _ => ?_⟩
        rw [wrn (j + 1) (by omega) (by omega)] at ev
        subst ev
        refine ih (j + 1) L2 (by omega) (fun c hc => by rw [e2, wt_a _ _ _ _ hc, g1 c hc]) (xFrR_tr g2 (by rw [e2]; exact xFrR_wt (by omega) (by omega) (ow_239 (by omega) (by omega)))) (fun s hs => by rw [e2, rd_wt_k _ _ _ _ (by omega), g3 s hs]) (fun r hr => ?_)
        by_cases c : r = j
        · subst c; rw [e2, rd_wt_s _ _ _ (rd_in _ _ _), rd_of (g1 250 (by omega))]
        · rw [e2, rd_wt_k _ _ _ _ (by omega), g4 r (by omega)]
    exact lp 3 0 J (by omega) (fun _ _ => rfl) f2 (fun _ _ => rfl) (fun r hr => absurd hr (by omega))
  have loop : ∀ (m : Nat) (J : Mm) (m3 : Option AV), okO m3 → m ≤ G.length → (∀ c, c ≠ 237 → c ≠ 239 → c ≠ 240 → J c = I c) → XFrR I J i → rd J 237 i = ((G.length + 1 : Nat) : Int) → (∀ j, j < m → pkE J (640 * i + j) = pkE I (640 * i + j)) → (∀ j, m ≤ j → j < G.length → pkE J (640 * i + j + 1) = pkE I (640 * i + j)) → (∀ j g, m ≤ j → G[j]? = some g → elt e g) → GoA 185 23 [some (.inr (3, 0, 0)), some (.inl (1, (i : Int))), some (.inl (1, ((640 * i + m : Nat) : Int))), m3] [] J (rV K) := by
    intro m
    induction m with
    | zero =>
      intro J m3 o3 hm f1 f2 f3 f4 f5 f6
      have w0 : wr (640 * (i : Int)) = ((640 * i : Nat) : Int) := wrn _ (by omega) (by omega)
      refine b_r_pick_23 (inRn (by omega)) (inRn (by omega)) o3 ⟨fun _ => ?_, fun z => absurd (by rw [w0]; omega) z⟩
      exact put 0 J (by omega) f1 f2 f3 f4 f5 (insL_insG2 hst (by omega) (fun j g hj _ => absurd hj (by omega)) f6) _ (okO_s (okF_1 (inRn (by omega)) 1))
    | succ m ih =>
      intro J m3 o3 hm f1 f2 f3 f4 f5 f6
      have w0 : wr (640 * (i : Int)) = ((640 * i : Nat) : Int) := wrn _ (by omega) (by omega)
      have k38 : 640 * i + m + 1 < 3840 := by omega
      obtain ⟨g, hg⟩ : ∃ g, G[m]? = some g := ⟨_, List.getElem?_eq_getElem (by omega)⟩
      have pm : pkE J (640 * i + m) = g := by rw [f4 m (by omega)]; have := t4 m g hg; rw [Nat.add_zero] at this; exact this
      have atJ : atE J = e := by unfold atE; rw [rd_of (f1 250 (by omega) (by omega) (by omega)), rd_of (f1 250 (by omega) (by omega) (by omega)), rd_of (f1 250 (by omega) (by omega) (by omega)), rd_of (f1 212 (by omega) (by omega) (by omega)), he]; rfl
      refine b_r_pick_23 (inRn (by omega)) (inRn (by omega)) o3 ⟨fun z => absurd z (by rw [w0]; omega), fun _ => ?_⟩
      have ar : ((640 * i + (m + 1) : Nat) : Int) - 1 = ((640 * i + m : Nat) : Int) := by omega
      rw [ar]
      refine c_isBefore (by omega) (fun hn => ?_) (fun hb => ?_)
      · refine ⟨fun _ => ?_, fun z => absurd rfl z⟩
        rw [atJ, pm] at hn
        refine put (m + 1) J hm f1 f2 f3 f4 f5 (insL_insG2 hst hm (fun j y hj hy => ?_) f6) _ (okO_s (okF_1 (inRn (by omega)) 1))
        by_cases c : j = m
        · subst c; rw [hg] at hy; cases hy; exact hn
        · have jl := (List.getElem?_eq_some_iff.mp hy).1
          have mg := List.getElem?_eq_some_iff.mp hg
          have my := List.getElem?_eq_some_iff.mp hy
          have := List.pairwise_iff_getElem.mp hst j m jl mg.1 (by omega)
          rw [mg.2, my.2] at this
          exact fun z => by
            rcases elt_tri g e with h | h | h
            · exact this (elt_trans h z)
            · subst h; exact this z
            · exact hn h
      · refine ⟨fun z => absurd z (by decide), fun _ => ?_⟩
        rw [atJ, pm] at hb
        obtain ⟨q, eq⟩ : ∃ q, q = 640 * i + m := ⟨_, rfl⟩
        rw [show 640 * i + (m + 1) = q + 1 by omega]
        have mv : ∀ (d j : Nat) (L : Mm), j + d = 3 → (∀ c, c ≠ 239 → L c = J c) → XFrR I L i → (∀ s, ¬ (3 * (q + 1) ≤ s ∧ s < 3 * (q + 1) + 3) → rd L 239 s = rd J 239 s) → (∀ r, r < j → rd L 239 (3 * (q + 1) + r) = rd J 239 (3 * q + r)) → GoA 185 44 [some (.inr (3, 0, 0)), some (.inl (1, (i : Int))), some (.inl (1, ((q + 1 : Nat) : Int))), some (.inl (1, (j : Int)))] [] L (rV K) := by
          intro d
          induction d with
          | zero =>
            intro j L hj g1 g2 g3 g4
            have w1 : wr (((q + 1 : Nat) : Int) - 1) = (q : Int) := wrn _ (by omega) (by omega)
            have w2 : wr (((q + 1 : Nat) : Int) + -1) = (q : Int) := wrn _ (by omega) (by omega)
            refine b_r_pick_44 (inRn (by omega)) (inRn (by omega)) (inRn (by omega)) ⟨fun _ => ?_, fun z => absurd (by omega) z⟩
            rw [w1, w2, Int.toNat_natCast, Int.toNat_natCast]
            refine ⟨by omega, by omega, fun L2 e2 v ev _ => ?_⟩
            subst ev
            rw [eq]
            have r0 := g4 0 (by omega)
            simp only [Nat.add_zero] at r0
            have e9 : ∀ s, rd L2 239 s = rd L 239 s := fun s => by rw [e2, rd_wt_a _ _ _ _ (by omega)]
            have mvd : pkE L2 (q + 1) = pkE J q := by
              unfold pkE
              rw [e9, e9, e9, r0, g4 1 (by omega), g4 2 (by omega), e2, rd_wt_s _ _ _ (rd_in _ _ _), rd_of (g1 240 (by omega))]
            have oth : ∀ r, r ≠ q + 1 → pkE L2 r = pkE J r := fun r hr => pkE_of (fun s s1 s2 => by rw [e9, g3 s (by omega)]) (by rw [e2, rd_wt_k _ _ _ _ hr, rd_of (g1 240 (by omega))])
            refine ih L2 _ (okO_s (okF_1 (inRn (by omega)) 1)) (by omega) (fun c c1 c2 c3 => by rw [e2, wt_a _ _ _ _ c3, g1 c c2, f1 c c1 c2 c3]) (xFrR_tr g2 (by rw [e2]; exact xFrR_wt (by omega) (by omega) (ow_240 (by omega) (by omega)))) (by rw [e2, rd_wt_a _ _ _ _ (by omega), rd_of (g1 237 (by omega)), f3]) (fun j' hj' => by rw [oth _ (by omega), f4 j' (by omega)]) (fun j' h1 h2 => ?_) (fun j' g' h1 hg' => ?_)
            · by_cases c : j' = m
              · subst c
                rw [← eq, mvd, eq]
                exact f4 j' (by omega)
              · rw [oth _ (by omega), f5 j' (by omega) h2]
            · by_cases c : j' = m
              · subst c; rw [hg] at hg'; cases hg'; exact hb
              · exact f6 j' g' (by omega) hg'
          | succ d ihd =>
            intro j L hj g1 g2 g3 g4
            have wa : wr (3 * ((q + 1 : Nat) : Int) - 3 + (j : Int)) = ((3 * q + j : Nat) : Int) := wrn _ (by omega) (by omega)
            have wv : wr (3 * ((q + 1 : Nat) : Int) + (j : Int)) = ((3 * (q + 1) + j : Nat) : Int) := wrn _ (by omega) (by omega)
            refine b_r_pick_44 (inRn (by omega)) (inRn (by omega)) (inRn (by omega)) ⟨fun z => absurd z (by omega), fun _ => ?_⟩
            rw [wa, wv, Int.toNat_natCast, Int.toNat_natCast]
            refine ⟨by omega, by omega, fun L2 e2 v ev _ => ?_⟩
            rw [wrn (j + 1) (by omega) (by omega)] at ev
            subst ev
            refine ihd (j + 1) L2 (by omega) (fun c hc => by rw [e2, wt_a _ _ _ _ hc, g1 c hc]) (xFrR_tr g2 (by rw [e2]; exact xFrR_wt (by omega) (by omega) (ow_239 (by omega) (by omega)))) (fun s hs => by rw [e2, rd_wt_k _ _ _ _ (by omega), g3 s hs]) (fun r hr => ?_)
            by_cases c : r = j
            · subst c; rw [e2, rd_wt_s _ _ _ (rd_in _ _ _), g3 _ (by omega)]
            · rw [e2, rd_wt_k _ _ _ _ (by omega), g4 r (by omega)]
        exact mv 3 0 J (by omega) (fun _ _ => rfl) f2 (fun _ _ => rfl) (fun r hr => absurd hr (by omega))
  refine callV_fl (as' := [.inr (3, 0, 0), .inl (1, (i : Int))]) rfl ?_
  refine callV_of rfl (b_r_pick (inRn (by omega)) ⟨by omega, ?_⟩)
  have wk : wr (640 * (i : Int) + rd I 237 ((i : Int)).toNat) = ((640 * i + G.length : Nat) : Int) := by rw [Int.toNat_natCast, t2]; exact wrn _ (by omega) (by omega)
  rw [wk]
  intro v ev _
  subst ev
  refine ⟨by omega, by omega, fun I1 e1 => ?_⟩
  rw [Int.toNat_natCast, t2] at e1
  refine loop G.length I1 none okO_n (by omega) (fun c c1 _ _ => by rw [e1, wt_a _ _ _ _ c1]) (by rw [e1]; exact xFrR_wt (by omega) (by omega) (ow_d rfl (by omega) (by omega) (by omega) (by omega) (by omega) (by omega))) (by rw [e1, rd_wt_s _ _ _ ⟨by omega, by omega⟩]; omega) (fun j _ => pkE_of (fun s _ _ => by rw [e1, rd_wt_a _ _ _ _ (by omega)]) (by rw [e1, rd_wt_a _ _ _ _ (by omega)])) (fun j h1 h2 => absurd h2 (by omega)) (fun j g h1 hg => absurd (List.getElem?_eq_some_iff.mp hg).1 (by omega))
