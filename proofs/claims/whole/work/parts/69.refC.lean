/-! THE REFERENCE: before, had, has, fail, note, changed -/
theorem imB_cg {I J : Mm} {b : Nat} (h : J 255 = I 255) (h2 : rd J 212 (49 + b) = rd I 212 (49 + b)) : imB J b = imB I b := imG_cg h h2
theorem sk_n (k : Ky) (a : Im) : sk k a none = false := by cases a <;> rfl
set_option maxHeartbeats 1000000 in
theorem c_had {I : Mm} {K : Int → Mm → Prop} {a1 i p fa : Nat} {k : Ky} {x : F4} (ha1 : isA a1) (hi : i < 6) (hk : kyOK k) (hC : kyR I i k) (hp : p < 320) (hx : imR I a1 p = some x) (h : K (b01 (sk k (some x) (imB I 0) || sk k (some x) (imB I 1))) I) : CallZ 164 [.inr (3, 0, 0), .inl (fa, (i : Int)), .inr (7, a1, 0), .inl (0, 4 * (p : Int))] I K := by
  refine callZ_fl (as' := [.inr (3, 0, 0), .inl (1, (i : Int)), .inr (7, a1, 0), .inl (1, ((4 * p : Nat) : Int))]) rfl ?_
  refine callZ_of rfl (b_r_hadKey ha1 (inRn (by omega)) (inRn (by omega)) ?_)
  have one : ∀ (b ot : Nat) (K' : Int → Mm → Prop), ot = 4 * b → b < 2 → ¬ rd I 212 (49 + b) = 0 → K' (b01 (sk k (some x) (imB I b))) I → CallZ 163 [.inr (3, 0, 0), .inl (1, (i : Int)), .inr (7, a1, 0), .inl (1, ((4 * p : Nat) : Int)), .inr (3, 0, 43), .inl (2, (ot : Int))] I K' := fun b ot K' eo hb z hK => by
    obtain ⟨y, hy⟩ := imG_ex (a := 255) (y := b) z
    have hy' : imB I b = some y := hy
    rw [hy'] at hK
    refine callZ_fl (as' := [.inr (3, 0, 0), .inl (1, (i : Int)), .inr (7, a1, 0), .inl (1, ((4 * p : Nat) : Int)), .inr (8, 255, 0), .inl (2, (ot : Int))]) rfl ?_
    exact c_same_78 ha1 hi hk hC (by omega) (by omega) (fun f hf => imG_fv hx hf) (fun f hf => by rw [eo]; exact imG_fv hy hf) hK
  have z0 : rd I 212 49 = 0 → sk k (some x) (imB I 0) = false := fun z => by rw [show imB I 0 = none from imG_none z]; rfl
  have z1 : rd I 212 50 = 0 → sk k (some x) (imB I 1) = false := fun z => by rw [show imB I 1 = none from imG_none z]; rfl
  have two : sk k (some x) (imB I 0) = false → (rd I 212 50 = 0 → (rZ K) (some (.inl (2, 0))) I) ∧ (¬ rd I 212 50 = 0 → CallZ 163 [.inr (3, 0, 0), .inl (1, (i : Int)), .inr (7, a1, 0), .inl (1, ((4 * p : Nat) : Int)), .inr (3, 0, 43), .inl (2, 4)] I (fun x1 I1 => (x1 = 0 → (rZ K) (some (.inl (2, 0))) I1) ∧ (¬ x1 = 0 → (rZ K) (some (.inl (2, 1))) I1))) := fun e0 => by
    rw [e0, Bool.false_or] at h
    refine ⟨fun z => ?_, fun z => ?_⟩
    · rw [z1 z] at h; exact h
    · refine one 1 4 _ (by omega) (by omega) z ?_
      cases e : sk k (some x) (imB I 1) with
      | false => rw [e] at h; exact ⟨fun _ => h, fun z => absurd rfl z⟩
      | true => rw [e] at h; exact ⟨fun z => absurd z (by decide), fun _ => h⟩
  refine ⟨fun z => two (z0 z), fun z => ?_⟩
  refine one 0 0 _ (by omega) (by omega) z ?_
  cases e : sk k (some x) (imB I 0) with
  | false => exact ⟨fun _ => two e, fun z => absurd rfl z⟩
  | true => rw [e] at h; exact ⟨fun z => absurd z (by decide), fun _ => h⟩
set_option maxHeartbeats 1000000 in
theorem c_has {I : Mm} {K : Int → Mm → Prop} {b i p fa fb fc : Nat} {k : Ky} {x : F4} (hb : b < 2) (hi : i < 6) (hk : kyOK k) (hC : kyR I i k) (hp : p < 320) (hx : imB I b = some x) (h : K (b01 (sk k (some x) (imR I 213 p) || sk k (some x) (imR I 214 p))) I) : CallZ 165 [.inr (3, 0, 0), .inl (fa, (i : Int)), .inl (fb, (p : Int)), .inr (3, 0, 43), .inl (fc, ((4 * b : Nat) : Int))] I K := by
  refine callZ_fl (as' := [.inr (3, 0, 0), .inl (1, (i : Int)), .inl (1, (p : Int)), .inr (8, 255, 0), .inl (1, ((4 * b : Nat) : Int))]) rfl ?_
  refine callZ_of rfl (b_r_hasKey (inRn (by omega)) (inRn (by omega)) (inRn (by omega)) ?_)
  rw [Int.toNat_natCast]
  have one : ∀ (a of : Nat) (K' : Int → Mm → Prop), isA a → a = 212 + of → ¬ rd I (a + 2) p = 0 → K' (b01 (sk k (some x) (imR I a p))) I → CallZ 163 [.inr (3, 0, 0), .inl (1, (i : Int)), .inr (8, 255, 0), .inl (1, ((4 * b : Nat) : Int)), .inr (7, a, 0), .inl (0, 4 * (p : Int))] I K' := fun a of K' ha eo z hK => by
    obtain ⟨y, hy⟩ := imG_ex (a := a) (y := p) z
    have hy' : imR I a p = some y := hy
    rw [hy'] at hK
    refine callZ_fl (as' := [.inr (3, 0, 0), .inl (1, (i : Int)), .inr (8, 255, 0), .inl (1, ((4 * b : Nat) : Int)), .inr (7, a, 0), .inl (1, ((4 * p : Nat) : Int))]) rfl ?_
    exact c_same_87 ha hi hk hC (by omega) (by omega) (fun f hf => imG_fv hx hf) (fun f hf => imG_fv hy hf) hK
  have one3 : ∀ (K' : Int → Mm → Prop), ¬ rd I 215 p = 0 → K' (b01 (sk k (some x) (imR I 213 p))) I → CallZ 163 [.inr (3, 0, 0), .inl (1, (i : Int)), .inr (8, 255, 0), .inl (1, ((4 * b : Nat) : Int)), .inr (3, 0, 1), .inl (0, 4 * (p : Int))] I K' := fun K' z hK => callZ_fl (as' := [.inr (3, 0, 0), .inl (1, (i : Int)), .inr (8, 255, 0), .inl (1, ((4 * b : Nat) : Int)), .inr (7, 213, 0), .inl (0, 4 * (p : Int))]) rfl (one 213 1 K' (Or.inl rfl) rfl z hK)
  have one4 : ∀ (K' : Int → Mm → Prop), ¬ rd I 216 p = 0 → K' (b01 (sk k (some x) (imR I 214 p))) I → CallZ 163 [.inr (3, 0, 0), .inl (1, (i : Int)), .inr (8, 255, 0), .inl (1, ((4 * b : Nat) : Int)), .inr (3, 0, 2), .inl (0, 4 * (p : Int))] I K' := fun K' z hK => callZ_fl (as' := [.inr (3, 0, 0), .inl (1, (i : Int)), .inr (8, 255, 0), .inl (1, ((4 * b : Nat) : Int)), .inr (7, 214, 0), .inl (0, 4 * (p : Int))]) rfl (one 214 2 K' (Or.inr rfl) rfl z hK)
  have z0 : rd I 215 p = 0 → sk k (some x) (imR I 213 p) = false := fun z => by rw [show imR I 213 p = none from imG_none z]; rfl
  have z1 : rd I 216 p = 0 → sk k (some x) (imR I 214 p) = false := fun z => by rw [show imR I 214 p = none from imG_none z]; rfl
  have two : sk k (some x) (imR I 213 p) = false → (0 ≤ (p : Int) ∧ (p : Int) < 320) ∧ ((rd I 216 p = 0 → (rZ K) (some (.inl (2, 0))) I) ∧ (¬ rd I 216 p = 0 → CallZ 163 [.inr (3, 0, 0), .inl (1, (i : Int)), .inr (8, 255, 0), .inl (1, ((4 * b : Nat) : Int)), .inr (3, 0, 2), .inl (0, 4 * (p : Int))] I (fun x1 I1 => (x1 = 0 → (rZ K) (some (.inl (2, 0))) I1) ∧ (¬ x1 = 0 → (rZ K) (some (.inl (2, 1))) I1)))) := fun e0 => by
    rw [e0, Bool.false_or] at h
    refine ⟨by omega, fun z => ?_, fun z => ?_⟩
    · rw [z1 z] at h; exact h
    · refine one4 _ z ?_
      cases e : sk k (some x) (imR I 214 p) with
      | false => rw [e] at h; exact ⟨fun _ => h, fun z => absurd rfl z⟩
      | true => rw [e] at h; exact ⟨fun z => absurd z (by decide), fun _ => h⟩
  refine ⟨by omega, fun z => two (z0 z), fun z => ?_⟩
  refine one3 _ z ?_
  cases e : sk k (some x) (imR I 213 p) with
  | false => exact ⟨fun _ => two e, fun z => absurd rfl z⟩
  | true => rw [e] at h; exact ⟨fun z => absurd z (by decide), fun _ => h⟩
theorem treeR_c {I : Mm} {i : Nat} {T : TS E} (h : TreeR I i T) : cnOK I := by
  obtain ⟨r, hT, _⟩ := h
  exact hT.1
set_option maxHeartbeats 1000000 in
theorem c_rfail {I : Mm} {K : Mm → Prop} {i fa fb : Nat} {re : Int} {x : Ix} (hi : i < 6) (hc : cnOK I) (hU : xU x = 1) (hre : inR re) (hx : IxR I i x) (hK : ∀ J : Mm, XFrR I J i → IxR J i (xFail x (re, (xW x).2)) → cnOK J → K J) : CallV 160 [.inr (3, 0, 0), .inl (fa, (i : Int)), .inl (fb, re)] I K := by
  refine callV_fl (as' := [.inr (3, 0, 0), .inl (1, (i : Int)), .inl (1, re)]) rfl ?_
  refine callV_of rfl (b_r_fail (inRn (by omega)) hre ?_)
  rw [Int.toNat_natCast]
  refine ⟨by omega, fun I1 e1 => ⟨by omega, fun I2 e2 => ⟨by omega, fun I3 e3 => ⟨by omega, fun I4 e4 => ?_⟩⟩⟩⟩
  have x1 : XFrR I I1 i := by rw [e1]; exact xFrR_wt (by omega) (by omega) (ow_d rfl (by omega) (by omega) (by omega) (by omega) (by omega) (by omega))
  have x2 : XFrR I1 I2 i := by rw [e2]; exact xFrR_wt (by omega) (by omega) (ow_d rfl (by omega) (by omega) (by omega) (by omega) (by omega) (by omega))
  have x3 : XFrR I2 I3 i := by rw [e3]; exact xFrR_wt (by omega) (by omega) (ow_d rfl (by omega) (by omega) (by omega) (by omega) (by omega) (by omega))
  have x4 : XFrR I3 I4 i := by rw [e4]; exact xFrR_wt (by omega) (by omega) (ow_d rfl (by omega) (by omega) (by omega) (by omega) (by omega) (by omega))
  have c4 : cnOK I4 := fun m hm => by rw [e4, rd_wt_a _ _ _ _ (by omega), e3, rd_wt_a _ _ _ _ (by omega), e2, rd_wt_a _ _ _ _ (by omega), e1, rd_wt_a _ _ _ _ (by omega)]; exact hc m hm
  refine c_emptyTree hi c4 ?_
  intro J f1 f2 hT
  have cJ := treeR_c hT
  refine hK J (xFrR_tr x1 (xFrR_tr x2 (xFrR_tr x3 (xFrR_tr x4 (xFrR_fr hi f2 cJ))))) ?_ cJ
  obtain ⟨a, b⟩ := hx
  obtain ⟨b1, b2, b3, b4, b5, b6, b7, b8⟩ := b (by omega)
  have r4 : ∀ c k, c ≠ 228 → c ≠ 230 → c ≠ 233 → c ≠ 237 → c ≠ 241 → c ≠ 242 → c ≠ 243 → c ≠ 246 → rd J c k = rd I c k := fun c k h1 h2 h3 h4 h5 h6 h7 h8 => by rw [rd_of (f1 c h5 h6 h7 h8), e4, rd_wt_a _ _ _ _ h4, e3, rd_wt_a _ _ _ _ h3, e2, rd_wt_a _ _ _ _ h2, e1, rd_wt_a _ _ _ _ h1]
  have j4 : ∀ c k, c ≠ 241 → c ≠ 242 → c ≠ 243 → c ≠ 246 → rd J c k = rd I4 c k := fun c k h5 h6 h7 h8 => rd_of (f1 c h5 h6 h7 h8) k
  refine ⟨by rw [r4 _ _ (by omega) (by omega) (by omega) (by omega) (by omega) (by omega) (by omega) (by omega)]; exact a, fun _ => ⟨by rw [r4 _ _ (by omega) (by omega) (by omega) (by omega) (by omega) (by omega) (by omega) (by omega)]; exact b1, ⟨by rw [r4 _ _ (by omega) (by omega) (by omega) (by omega) (by omega) (by omega) (by omega) (by omega)]; exact b2.1, fun j hj => by rw [r4 _ _ (by omega) (by omega) (by omega) (by omega) (by omega) (by omega) (by omega) (by omega)]; exact b2.2 j hj⟩, ?_, ⟨?_, ?_⟩, ⟨?_, ?_, ?_⟩, hT, ⟨?_, by show ([] : List (Int × E)).length ≤ 300; simp, fun j c e hj => ?_⟩, fun hs => ?_⟩⟩
  · rw [r4 _ _ (by omega) (by omega) (by omega) (by omega) (by omega) (by omega) (by omega) (by omega), r4 _ _ (by omega) (by omega) (by omega) (by omega) (by omega) (by omega) (by omega) (by omega), r4 _ _ (by omega) (by omega) (by omega) (by omega) (by omega) (by omega) (by omega) (by omega)]; exact b3
  · rw [j4 _ _ (by omega) (by omega) (by omega) (by omega), e4, rd_wt_a _ _ _ _ (by omega), e3, rd_wt_a _ _ _ _ (by omega), e2, rd_wt_a _ _ _ _ (by omega), e1, rd_wt_s _ _ _ ⟨by omega, by omega⟩]; rfl
  · rw [r4 _ _ (by omega) (by omega) (by omega) (by omega) (by omega) (by omega) (by omega) (by omega)]; exact b4.2
  · rw [j4 _ _ (by omega) (by omega) (by omega) (by omega), e4, rd_wt_a _ _ _ _ (by omega), e3, rd_wt_a _ _ _ _ (by omega), e2, rd_wt_s _ _ _ hre]; rfl
  · rw [r4 _ _ (by omega) (by omega) (by omega) (by omega) (by omega) (by omega) (by omega) (by omega)]; exact b5.2.1
  · rw [r4 _ _ (by omega) (by omega) (by omega) (by omega) (by omega) (by omega) (by omega) (by omega)]; exact b5.2.2
  · rw [j4 _ _ (by omega) (by omega) (by omega) (by omega), e4, rd_wt_a _ _ _ _ (by omega), e3, rd_wt_s _ _ _ ⟨by omega, by omega⟩]; rfl
  · have hj : ([] : List (Int × E))[j]? = some (c, e) := hj
    simp at hj
  · have hs : (5 : Int) = 1 ∨ (5 : Int) = 2 := hs
    exact absurd hs (by decide)
set_option maxHeartbeats 2000000 in
theorem c_note {I : Mm} {K : Mm → Prop} {i fa fb : Nat} {cm : Int} {x : Ix} (hi : i < 6) (hU : xU x = 1) (hcm : bl cm) (hg : good (xT x)) (hl : (lsT (xT x)).length ≤ 647) (h0 : 0 ≤ (atE I).2.2.2) (hx : IxR I i x) (hK : ∀ J : Mm, XFrR I J i → IxR J i (xTk cm (atE I) x) → cnOK J → K J) : CallV 161 [.inr (3, 0, 0), .inl (fa, (i : Int)), .inl (fb, cm)] I K := by
  have icm : inR cm := by rcases hcm with e | e <;> rw [e] <;> exact ⟨by omega, by omega⟩
  refine callV_fl (as' := [.inr (3, 0, 0), .inl (1, (i : Int)), .inl (1, cm)]) rfl ?_
  refine callV_of rfl (b_r_note (inRn (by omega)) icm ?_)
  rw [Int.toNat_natCast]
  obtain ⟨a, b⟩ := id hx
  obtain ⟨b1, b2, b3, b4, b5, b6, b7, b8⟩ := b (by omega)
  have hc := treeR_c b6
  have h0 : 0 ≤ rd I 212 41 := h0
  have e41 : (atE I).2.2.2 = rd I 212 41 := rfl
  rw [b4.1, b4.2]
  unfold xTk at hK
  refine ⟨by omega, fun z => ?_, fun z => ⟨by omega, fun z4 => ?_, fun z4 => ⟨by omega, by omega, fun zp => ?_, fun zp => ⟨by omega, ?_⟩⟩⟩⟩
  · rw [if_pos z] at hK
    refine ⟨fun c0 => c_goes hi b6 hg (by omega) ?_, fun c0 => c_comes hi b6 hg hl ?_⟩
    · intro J f hT
      have cJ := treeR_c hT
      refine hK J (xFrR_fr hi f cJ) (ixR_T (fun c h1 h2 => f.1 c (by omega) (by omega) (by omega) (by omega) (by omega) (by omega) (by omega) (by omega) (by omega) (by omega)) ?_ hx) cJ
      unfold stepT; rw [if_pos c0]; exact hT
    · intro J f hT
      have cJ := treeR_c hT
      refine hK J (xFrR_fr hi f cJ) (ixR_T (fun c h1 h2 => f.1 c (by omega) (by omega) (by omega) (by omega) (by omega) (by omega) (by omega) (by omega) (by omega) (by omega)) ?_ hx) cJ
      unfold stepT; rw [if_neg c0]; exact hT
  · rw [if_neg z, if_neg (by omega)] at hK
    exact hK I (xFrR_rfl I i) hx hc
  · rw [if_neg z, if_neg (by rw [e41]; omega)] at hK
    exact hK I (xFrR_rfl I i) hx hc
  · rw [if_neg z, if_pos (by rw [e41]; omega)] at hK
    obtain ⟨l1, l2, l3⟩ := b7
    refine ⟨fun zl => ?_, fun zl => ⟨by omega, ?_⟩⟩
    · rw [if_neg (by omega)] at hK
      exact c_rfail hi hc hU ⟨by omega, by omega⟩ hx hK
    · rw [if_pos (by omega), ] at hK
      rw [l1]
      intro v ev _
      rw [wrn (300 * i + (xL x).length) (by omega) (by omega)] at ev
      subst ev
      rw [Int.toNat_natCast]
      refine ⟨by omega, by omega, fun I1 e1 => ⟨by omega, hcm, fun I2 e2 => ⟨by omega, fun I3 e3 => ?_⟩⟩⟩
      have r2 : rd I2 212 41 = rd I 212 41 := by rw [e2, rd_wt_a _ _ _ _ (by omega), e1, rd_wt_a _ _ _ _ (by omega)]
      rw [r2] at e3
      have x1 : XFrR I I1 i := by rw [e1]; exact xFrR_wt (by omega) (by omega) (ow_d rfl (by omega) (by omega) (by omega) (by omega) (by omega) (by omega))
      have x2 : XFrR I1 I2 i := by rw [e2]; exact xFrR_wt (by omega) (by omega) (ow_234 (by omega) (by omega))
      have x3 : XFrR I2 I3 i := by rw [e3]; exact xFrR_wt (by omega) (by omega) (ow_236 (by omega) (by omega))
      have y3 := xFrR_tr x1 (xFrR_tr x2 x3)
      have g3 : ∀ c, c ≠ 233 → c ≠ 234 → c ≠ 236 → I3 c = I c := fun c h1 h2 h3 => by rw [e3, wt_a _ _ _ _ h3, e2, wt_a _ _ _ _ h2, e1, wt_a _ _ _ _ h1]
      have loop : ∀ (d j : Nat) (J : Mm), j + d = 3 → XFrR I3 J i → (∀ c, c ≠ 235 → J c = I3 c) → (∀ q, (q < 3 * (300 * i + (xL x).length) ∨ 3 * (300 * i + (xL x).length) + j ≤ q) → rd J 235 q = rd I3 235 q) → (∀ q, q < j → rd J 235 (3 * (300 * i + (xL x).length) + q) = rd I 250 q) → GoA 161 118 [some (.inr (3, 0, 0)), some (.inl (1, (i : Int))), some (.inl (1, cm)), some (.inl (1, ((300 * i + (xL x).length : Nat) : Int))), some (.inl (1, (j : Int)))] [] J (rV K) := by
        intro d
        induction d with
        | zero =>
          intro j J hj hX f1 f2 f3
          refine b_r_note_118 (okO_s (okF_1 (inRn (by omega)) 1)) (okO_s (okF_1 icm 1)) (inRn (by omega)) (inRn (by omega)) ⟨fun _ => ?_, fun z => absurd (by omega) z⟩
          have g : ∀ c, c ≠ 233 → c ≠ 234 → c ≠ 235 → c ≠ 236 → J c = I c := fun c h1 h2 h3 h4 => by rw [f1 c h3, g3 c h1 h2 h4]
          have r : ∀ c k, c ≠ 233 → c ≠ 234 → c ≠ 235 → c ≠ 236 → rd J c k = rd I c k := fun c k h1 h2 h3 h4 => rd_of (g c h1 h2 h3 h4) k
          have q233 : rd J 233 i = (xL x).length + 1 := by rw [rd_of (f1 _ (by omega)), e3, rd_wt_a _ _ _ _ (by omega), e2, rd_wt_a _ _ _ _ (by omega), e1, rd_wt_s _ _ _ ⟨by omega, by omega⟩]
          have hTJ : TreeR J i (xT x) := treeR_of (fun c h1 h2 => g c (by omega) (by omega) (by omega) (by omega)) b6
          refine hK J (xFrR_tr y3 hX) ⟨by rw [r _ _ (by omega) (by omega) (by omega) (by omega)]; exact a, fun _ => ⟨by rw [r _ _ (by omega) (by omega) (by omega) (by omega)]; exact b1, ⟨by rw [r _ _ (by omega) (by omega) (by omega) (by omega)]; exact b2.1, fun j hj => by rw [r _ _ (by omega) (by omega) (by omega) (by omega)]; exact b2.2 j hj⟩, by rw [r _ _ (by omega) (by omega) (by omega) (by omega), r _ _ (by omega) (by omega) (by omega) (by omega), r _ _ (by omega) (by omega) (by omega) (by omega)]; exact b3, by rw [r _ _ (by omega) (by omega) (by omega) (by omega), r _ _ (by omega) (by omega) (by omega) (by omega)]; exact b4, by rw [r _ _ (by omega) (by omega) (by omega) (by omega), r _ _ (by omega) (by omega) (by omega) (by omega), r _ _ (by omega) (by omega) (by omega) (by omega)]; exact b5, hTJ, ⟨?_, ?_, ?_⟩, ?_⟩⟩ (treeR_c hTJ)
          · rw [q233]
            show _ = ((xL x ++ [(cm, atE I)]).length : Int)
            rw [List.length_append]; simp
          · show (xL x ++ [(cm, atE I)]).length ≤ 300
            rw [List.length_append]; simp; omega
          · intro l c e hlc
            have hlc : (xL x ++ [(cm, atE I)])[l]? = some (c, e) := hlc
            by_cases cl : l < (xL x).length
            · rw [List.getElem?_append_left cl] at hlc
              obtain ⟨m1, m2, m3⟩ := l3 l c e hlc
              refine ⟨?_, ?_, m3⟩
              · rw [rd_of (f1 _ (by omega)), e3, rd_wt_a _ _ _ _ (by omega), e2, rd_wt_k _ _ _ _ (by omega), e1, rd_wt_a _ _ _ _ (by omega)]; exact m1
              · rw [← m2]
                unfold lgE
                rw [f2 _ (by omega), f2 _ (by omega), f2 _ (by omega), rd_of (f1 236 (by omega)), rd_of (g3 235 (by omega) (by omega) (by omega)), rd_of (g3 235 (by omega) (by omega) (by omega)), rd_of (g3 235 (by omega) (by omega) (by omega)), e3, rd_wt_k _ _ _ _ (by omega), e2, rd_wt_a _ _ _ _ (by omega), e1, rd_wt_a _ _ _ _ (by omega)]
            · have el : l = (xL x).length := by
                have := (List.getElem?_eq_some_iff.mp hlc).1
                simp at this
                omega
              subst el
              simp at hlc
              obtain ⟨h1, h2⟩ := hlc
              refine ⟨?_, ?_, by rw [← h1]; exact hcm⟩
              · rw [rd_of (f1 _ (by omega)), e3, rd_wt_a _ _ _ _ (by omega), e2, rd_wt_s _ _ _ icm, h1]
              · rw [← h2]
                unfold lgE atE
                have q0 : rd J 235 (3 * (300 * i + (xL x).length)) = rd I 250 0 := f3 0 (by omega)
                rw [q0, f3 1 (by omega), f3 2 (by omega), rd_of (f1 236 (by omega)), e3, rd_wt_s _ _ _ (rd_in _ _ _)]
          · show PkR J i (xS x) (xG x)
            intro hs
            obtain ⟨tk, p1, p2, p3, p4, p5⟩ := b8 hs
            refine ⟨tk, p1, p2, by rw [r _ _ (by omega) (by omega) (by omega) (by omega)]; exact p3, by rw [r _ _ (by omega) (by omega) (by omega) (by omega)]; exact p4, fun j e hj => ?_⟩
            rw [← p5 j e hj]
            unfold pkE
            rw [r _ _ (by omega) (by omega) (by omega) (by omega), r _ _ (by omega) (by omega) (by omega) (by omega), r _ _ (by omega) (by omega) (by omega) (by omega), r _ _ (by omega) (by omega) (by omega) (by omega)]
        | succ d ih =>
          intro j J hj hX f1 f2 f3
          refine b_r_note_118 (okO_s (okF_1 (inRn (by omega)) 1)) (okO_s (okF_1 icm 1)) (inRn (by omega)) (inRn (by omega)) ⟨fun z => absurd z (by omega), fun _ => ⟨by omega, ?_⟩⟩
          rw [wrn (3 * (300 * i + (xL x).length) + j) (by omega) (by omega), Int.toNat_natCast, Int.toNat_natCast]
          refine ⟨by omega, ?_⟩
          intro L eL v ev _
          rw [wrn (j + 1) (by omega) (by omega)] at ev
          subst ev
          refine ih (j + 1) L (by omega) (xFrR_tr hX (by rw [eL]; exact xFrR_wt (by omega) (by omega) (ow_235 (by omega) (by omega)))) (fun c hc => by rw [eL, wt_a _ _ _ _ hc, f1 c hc]) (fun q hq => by rw [eL, rd_wt_k _ _ _ _ (by omega), f2 q (by omega)]) (fun q hq => ?_)
          by_cases c : q = j
          · subst c
            rw [eL, rd_wt_s _ _ _ (rd_in _ _ _), rd_of (f1 250 (by omega)), rd_of (g3 250 (by omega) (by omega) (by omega))]
          · rw [eL, rd_wt_k _ _ _ _ (by omega), f3 q (by omega)]
      exact loop 3 0 I3 (by omega) (xFrR_rfl I3 i) (fun _ _ => rfl) (fun _ _ => rfl) (fun q hq => absurd hq (by omega))
