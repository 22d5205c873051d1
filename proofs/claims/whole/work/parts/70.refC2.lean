/-! THE REFERENCE: keepBefore, changed -/
def FrA (I J : Mm) : Prop := (∀ c, (c < 212 ∨ (213 ≤ c ∧ c ≤ 223) ∨ (247 ≤ c ∧ c ≤ 249) ∨ 255 ≤ c) → J c = I c) ∧ (∀ k, k ≠ 41 → k ≠ 42 → k ≠ 45 → rd J 212 k = rd I 212 k)
set_option maxHeartbeats 1000000 in
theorem c_keepBefore {I : Mm} {K : Mm → Prop} {p fa : Nat} (hp : p < 320) (h5 : bl (rd I 215 p)) (h6 : bl (rd I 216 p)) (hK : ∀ J : Mm, (∀ c, c ≠ 212 → c ≠ 255 → J c = I c) → (∀ k, k ≠ 49 → k ≠ 50 → rd J 212 k = rd I 212 k) → imB J 0 = imR I 213 p → imB J 1 = imR I 214 p → (∀ f, f < 4 → rd J 255 (4 + f) = rd I 214 (4 * p + f)) → rd J 212 50 = rd I 216 p → K J) : CallV 162 [.inr (3, 0, 0), .inl (fa, (p : Int))] I K := by
  refine callV_fl (as' := [.inr (3, 0, 0), .inl (1, (p : Int))]) rfl ?_
  refine callV_of rfl (b_r_keepBefore (inRn (by omega)) ?_)
  rw [Int.toNat_natCast]
  refine ⟨by omega, h5, fun I1 e1 => ⟨by omega, ?_⟩⟩
  have r16 : rd I1 216 p = rd I 216 p := by rw [e1, rd_wt_a _ _ _ _ (by omega)]
  rw [r16]
  refine ⟨h6, fun I2 e2 => ?_⟩
  have g2 : ∀ c, c ≠ 212 → I2 c = I c := fun c hc => by rw [e2, wt_a _ _ _ _ hc, e1, wt_a _ _ _ _ hc]
  have s49 : rd I2 212 49 = rd I 215 p := by rw [e2, rd_wt_k _ _ _ _ (by omega), e1, rd_wt_s _ _ _ (rd_in _ _ _)]
  have s50 : rd I2 212 50 = rd I 216 p := by rw [e2, rd_wt_s _ _ _ (rd_in _ _ _)]
  have loop : ∀ (d f : Nat) (J : Mm), f + d = 4 → (∀ c, c ≠ 255 → J c = I2 c) → (∀ q, q < f → rd J 255 q = rd I 213 (4 * p + q)) → (∀ q, q < f → rd J 255 (4 + q) = rd I 214 (4 * p + q)) → GoA 162 22 [some (.inr (3, 0, 0)), some (.inl (1, (p : Int))), some (.inl (1, (f : Int)))] [] J (rV K) := by
    intro d
    induction d with
    | zero =>
      intro f J hf f1 f2 f3
      refine b_r_keepBefore_22 (inRn (by omega)) (inRn (by omega)) ⟨fun _ => ?_, fun z => absurd (by omega) z⟩
      refine hK J (fun c h1 h2 => by rw [f1 c h2, g2 c h1]) (fun k k1 k2 => by rw [rd_of (f1 212 (by omega)), e2, rd_wt_k _ _ _ _ k2, e1, rd_wt_k _ _ _ _ k1]) ?_ ?_ (fun f hf => f3 f (by omega)) (by rw [rd_of (f1 212 (by omega)), s50])
      · refine imG_cp (by show rd J 212 49 = rd I 215 p; rw [rd_of (f1 212 (by omega)), s49]) (fun g hg => ?_)
        rw [show 4 * 0 + g = g by omega]
        exact f2 g (by omega)
      · exact imG_cp (by show rd J 212 50 = rd I 216 p; rw [rd_of (f1 212 (by omega)), s50]) (fun g hg => f3 g (by omega))
    | succ d ih =>
      intro f J hf f1 f2 f3
      refine b_r_keepBefore_22 (inRn (by omega)) (inRn (by omega)) ⟨fun z => absurd z (by omega), fun _ => ?_⟩
      have w1 : wr (4 * (p : Int) + (f : Int)) = ((4 * p + f : Nat) : Int) := wrn (4 * p + f) (by omega) (by omega)
      have w2 : wr (4 + (f : Int)) = ((4 + f : Nat) : Int) := wrn (4 + f) (by omega) (by omega)
      rw [w1, w2, Int.toNat_natCast, Int.toNat_natCast, Int.toNat_natCast]
      refine ⟨by omega, by omega, fun L eL => ⟨by omega, by omega, fun N eN v ev _ => ?_⟩⟩
      rw [wrn (f + 1) (by omega) (by omega)] at ev
      subst ev
      have r13 : rd J 213 (4 * p + f) = rd I 213 (4 * p + f) := by rw [rd_of (f1 _ (by omega)), rd_of (g2 _ (by omega))]
      have r14 : rd L 214 (4 * p + f) = rd I 214 (4 * p + f) := by rw [eL, rd_wt_a _ _ _ _ (by omega), rd_of (f1 _ (by omega)), rd_of (g2 _ (by omega))]
      rw [r13] at eL
      rw [r14] at eN
      refine ih (f + 1) N (by omega) (fun c hc => by rw [eN, wt_a _ _ _ _ hc, eL, wt_a _ _ _ _ hc, f1 c hc]) (fun q hq => ?_) (fun q hq => ?_)
      · rw [eN, rd_wt_k _ _ _ _ (by omega)]
        by_cases c : q = f
        · subst c; rw [eL, rd_wt_s _ _ _ (rd_in _ _ _)]
        · rw [eL, rd_wt_k _ _ _ _ c, f2 q (by omega)]
      · by_cases c : q = f
        · subst c; rw [eN, rd_wt_s _ _ _ (rd_in _ _ _)]
        · rw [eN, rd_wt_k _ _ _ _ (by omega), eL, rd_wt_k _ _ _ _ (by omega), f3 q (by omega)]
  exact loop 4 0 I2 (by omega) (fun _ _ => rfl) (fun q hq => absurd hq (by omega)) (fun q hq => absurd hq (by omega))
/-- the entry that comes, or goes -/
def chE (k : Ky) (a a' b c : Im) (p : Int) : Option E := match nwE k a b c p with
  | some e => some e
  | none => nwE k a' b c p
theorem nwE_p {k : Ky} {a b c : Im} {p : Int} {e : E} (h : nwE k a b c p = some e) : e.2.2.2 = p := by
  unfold nwE at h
  cases a with
  | none => cases h
  | some x =>
    have h : (if sk k (some x) b || sk k (some x) c then none else some (kE k x p)) = some e := h
    split at h
    · cases h
    · cases h; rfl
theorem sk_refl (k : Ky) (x : F4) : sk k (some x) (some x) = true := decide_eq_true rfl
theorem nwE_l (k : Ky) (a c : Im) (p : Int) : nwE k a a c p = none := by
  cases a with
  | none => rfl
  | some x =>
    show (if sk k (some x) (some x) || sk k (some x) c then none else some (kE k x p)) = none
    rw [sk_refl]; rfl
theorem nwE_c (k : Ky) (a b c : Im) (p : Int) : nwE k a b c p = nwE k a c b p := by
  cases a with
  | none => rfl
  | some x =>
    show (if sk k (some x) b || sk k (some x) c then none else some (kE k x p)) = (if sk k (some x) c || sk k (some x) b then none else some (kE k x p))
    rw [Bool.or_comm]
theorem chE_of {k : Ky} {a a' b c : Im} {p : Int} (h : nwE k a b c p = none) : chE k a a' b c p = nwE k a' b c p := by
  unfold chE; rw [h]
theorem chE_fst {k : Ky} {a a' b c : Im} {p : Int} (h : nwE k a' b c p = none) : chE k a a' b c p = nwE k a b c p := by
  unfold chE
  cases e : nwE k a b c p with
  | none => exact h
  | some y => rfl
set_option maxHeartbeats 1000000 in
theorem st_in_213 {J : Mm} {P0 P1 : Mm → Prop} {i p : Nat} {x : Ix} (hi : i < 6) (hp : p < 320) (hU : xU x = 1) (hk : kyOK (xK x)) (hg : good (xT x)) (hl : (lsT (xT x)).length ≤ 647) (hx : IxR J i x) (hn : nwE (xK x) (imR J 213 p) (imB J 0) (imB J 1) p = none → P0 J) (hs : ∀ e J3, nwE (xK x) (imR J 213 p) (imB J 0) (imB J 1) p = some e → XFrR J J3 i → IxR J3 i (xTk 1 e x) → cnOK J3 → P1 J3) :
    (rd J 215 p = 0 → P0 J) ∧ (¬ rd J 215 p = 0 → CallZ 164 [.inr (3, 0, 0), .inl (1, (i : Int)), .inr (3, 0, 1), .inl (0, 4 * (p : Int))] J (fun x1 J1 => (x1 = 0 → CallV 141 [.inr (3, 0, 0), .inl (1, (i : Int)), .inr (3, 0, 1), .inl (0, 4 * (p : Int)), .inl (1, (p : Int))] J1 (fun J2 => CallV 161 [.inr (3, 0, 0), .inl (1, (i : Int)), .inl (2, 1)] J2 (fun J3 => P1 J3))) ∧ (¬ x1 = 0 → P0 J1))) := by
  have hC : kyR J i (xK x) := (hx.2 (by omega)).2.1
  refine ⟨fun z => hn (by rw [show imR J 213 p = none from imG_none z]; rfl), fun z => ?_⟩
  obtain ⟨y, hy⟩ : ∃ y, imR J 213 p = some y := imG_ex z
  rw [hy] at hn hs
  refine callZ_fl (as' := [.inr (3, 0, 0), .inl (1, (i : Int)), .inr (7, 213, 0), .inl (0, 4 * (p : Int))]) rfl ?_
  refine c_had (by unfold isA; omega) hi hk hC hp hy ?_
  have hn : (if sk (xK x) (some y) (imB J 0) || sk (xK x) (some y) (imB J 1) then none else some (kE (xK x) y p)) = none → P0 J := hn
  have hs : ∀ e J3, (if sk (xK x) (some y) (imB J 0) || sk (xK x) (some y) (imB J 1) then none else some (kE (xK x) y p)) = some e → XFrR J J3 i → IxR J3 i (xTk 1 e x) → cnOK J3 → P1 J3 := hs
  cases e : (sk (xK x) (some y) (imB J 0) || sk (xK x) (some y) (imB J 1)) with
  | true =>
    rw [e] at hn
    exact ⟨fun z => absurd z (by decide), fun _ => hn rfl⟩
  | false =>
    rw [e] at hs
    refine ⟨fun _ => ?_, fun z => absurd rfl z⟩
    refine callV_fl (as' := [.inr (3, 0, 0), .inl (1, (i : Int)), .inr (7, 213, 0), .inl (1, ((4 * p : Nat) : Int)), .inl (1, (p : Int))]) rfl ?_
    refine c_entryOf_7 (by unfold isA; omega) hi hk hC hp (by omega) (fun f hf => imG_fv hy hf) ?_
    intro J2 f1 f2 f3
    have hx2 : IxR J2 i x := ixR_eq (fun c k h1 h2 _ => rd_of (f1 c (by omega) (by omega)) k) (fun _ => hk.2.1) (fun T hT => treeR_of (fun c h1 h2 => f1 c (by omega) (by omega)) hT) hx
    refine c_note hi hU (Or.inr rfl) hg hl (by rw [f3]; show (0 : Int) ≤ (p : Int); omega) hx2 ?_
    intro J3 g1 g2 g3
    rw [f3] at g2
    exact hs _ J3 rfl (xFrR_tr (xFrR_sc (fun c c1 c2 _ _ _ _ => f1 c c1 c2) (fun k k1 _ _ => f2 k k1)) g1) g2 g3
set_option maxHeartbeats 1000000 in
theorem st_in_214 {J : Mm} {P0 P1 : Mm → Prop} {i p : Nat} {x : Ix} (hi : i < 6) (hp : p < 320) (hU : xU x = 1) (hk : kyOK (xK x)) (hg : good (xT x)) (hl : (lsT (xT x)).length ≤ 647) (hx : IxR J i x) (hn : nwE (xK x) (imR J 214 p) (imB J 0) (imB J 1) p = none → P0 J) (hs : ∀ e J3, nwE (xK x) (imR J 214 p) (imB J 0) (imB J 1) p = some e → XFrR J J3 i → IxR J3 i (xTk 1 e x) → cnOK J3 → P1 J3) :
    (rd J 216 p = 0 → P0 J) ∧ (¬ rd J 216 p = 0 → CallZ 164 [.inr (3, 0, 0), .inl (1, (i : Int)), .inr (3, 0, 2), .inl (0, 4 * (p : Int))] J (fun x1 J1 => (x1 = 0 → CallV 141 [.inr (3, 0, 0), .inl (1, (i : Int)), .inr (3, 0, 2), .inl (0, 4 * (p : Int)), .inl (1, (p : Int))] J1 (fun J2 => CallV 161 [.inr (3, 0, 0), .inl (1, (i : Int)), .inl (2, 1)] J2 (fun J3 => P1 J3))) ∧ (¬ x1 = 0 → P0 J1))) := by
  have hC : kyR J i (xK x) := (hx.2 (by omega)).2.1
  refine ⟨fun z => hn (by rw [show imR J 214 p = none from imG_none z]; rfl), fun z => ?_⟩
  obtain ⟨y, hy⟩ : ∃ y, imR J 214 p = some y := imG_ex z
  rw [hy] at hn hs
  refine callZ_fl (as' := [.inr (3, 0, 0), .inl (1, (i : Int)), .inr (7, 214, 0), .inl (0, 4 * (p : Int))]) rfl ?_
  refine c_had (by unfold isA; omega) hi hk hC hp hy ?_
  have hn : (if sk (xK x) (some y) (imB J 0) || sk (xK x) (some y) (imB J 1) then none else some (kE (xK x) y p)) = none → P0 J := hn
  have hs : ∀ e J3, (if sk (xK x) (some y) (imB J 0) || sk (xK x) (some y) (imB J 1) then none else some (kE (xK x) y p)) = some e → XFrR J J3 i → IxR J3 i (xTk 1 e x) → cnOK J3 → P1 J3 := hs
  cases e : (sk (xK x) (some y) (imB J 0) || sk (xK x) (some y) (imB J 1)) with
  | true =>
    rw [e] at hn
    exact ⟨fun z => absurd z (by decide), fun _ => hn rfl⟩
  | false =>
    rw [e] at hs
    refine ⟨fun _ => ?_, fun z => absurd rfl z⟩
    refine callV_fl (as' := [.inr (3, 0, 0), .inl (1, (i : Int)), .inr (7, 214, 0), .inl (1, ((4 * p : Nat) : Int)), .inl (1, (p : Int))]) rfl ?_
    refine c_entryOf_7 (by unfold isA; omega) hi hk hC hp (by omega) (fun f hf => imG_fv hy hf) ?_
    intro J2 f1 f2 f3
    have hx2 : IxR J2 i x := ixR_eq (fun c k h1 h2 _ => rd_of (f1 c (by omega) (by omega)) k) (fun _ => hk.2.1) (fun T hT => treeR_of (fun c h1 h2 => f1 c (by omega) (by omega)) hT) hx
    refine c_note hi hU (Or.inr rfl) hg hl (by rw [f3]; show (0 : Int) ≤ (p : Int); omega) hx2 ?_
    intro J3 g1 g2 g3
    rw [f3] at g2
    exact hs _ J3 rfl (xFrR_tr (xFrR_sc (fun c c1 c2 _ _ _ _ => f1 c c1 c2) (fun k k1 _ _ => f2 k k1)) g1) g2 g3
set_option maxHeartbeats 1000000 in
theorem st_out_0 {J : Mm} {P0 P1 : Mm → Prop} {i p : Nat} {x : Ix} (hi : i < 6) (hp : p < 320) (hU : xU x = 1) (hk : kyOK (xK x)) (hg : good (xT x)) (hl : (lsT (xT x)).length ≤ 647) (hx : IxR J i x) (hn : nwE (xK x) (imB J 0) (imR J 213 p) (imR J 214 p) p = none → P0 J) (hs : ∀ e J3, nwE (xK x) (imB J 0) (imR J 213 p) (imR J 214 p) p = some e → XFrR J J3 i → IxR J3 i (xTk 0 e x) → cnOK J3 → P1 J3) :
    (rd J 212 49 = 0 → P0 J) ∧ (¬ rd J 212 49 = 0 → CallZ 165 [.inr (3, 0, 0), .inl (1, (i : Int)), .inl (1, (p : Int)), .inr (3, 0, 43), .inl (2, 0)] J (fun x1 J1 => (x1 = 0 → CallV 141 [.inr (3, 0, 0), .inl (1, (i : Int)), .inr (3, 0, 43), .inl (2, 0), .inl (1, (p : Int))] J1 (fun J2 => CallV 161 [.inr (3, 0, 0), .inl (1, (i : Int)), .inl (2, 0)] J2 (fun J3 => P1 J3))) ∧ (¬ x1 = 0 → P0 J1))) := by
  have hC : kyR J i (xK x) := (hx.2 (by omega)).2.1
  refine ⟨fun z => hn (by rw [show imB J 0 = none from imG_none z]; rfl), fun z => ?_⟩
  obtain ⟨y, hy⟩ : ∃ y, imB J 0 = some y := imG_ex z
  rw [hy] at hn hs
  refine callZ_fl (as' := [.inr (3, 0, 0), .inl (1, (i : Int)), .inl (1, (p : Int)), .inr (3, 0, 43), .inl (2, ((4 * 0 : Nat) : Int))]) rfl ?_
  refine c_has (by omega) hi hk hC hp hy ?_
  have hn : (if sk (xK x) (some y) (imR J 213 p) || sk (xK x) (some y) (imR J 214 p) then none else some (kE (xK x) y p)) = none → P0 J := hn
  have hs : ∀ e J3, (if sk (xK x) (some y) (imR J 213 p) || sk (xK x) (some y) (imR J 214 p) then none else some (kE (xK x) y p)) = some e → XFrR J J3 i → IxR J3 i (xTk 0 e x) → cnOK J3 → P1 J3 := hs
  cases e : (sk (xK x) (some y) (imR J 213 p) || sk (xK x) (some y) (imR J 214 p)) with
  | true =>
    rw [e] at hn
    exact ⟨fun z => absurd z (by decide), fun _ => hn rfl⟩
  | false =>
    rw [e] at hs
    refine ⟨fun _ => ?_, fun z => absurd rfl z⟩
    refine callV_fl (as' := [.inr (3, 0, 0), .inl (1, (i : Int)), .inr (8, 255, 0), .inl (1, ((4 * 0 : Nat) : Int)), .inl (1, (p : Int))]) rfl ?_
    refine c_entryOf_8 hi hk hC hp (by omega) (fun f hf => imG_fv hy hf) ?_
    intro J2 f1 f2 f3
    have hx2 : IxR J2 i x := ixR_eq (fun c k h1 h2 _ => rd_of (f1 c (by omega) (by omega)) k) (fun _ => hk.2.1) (fun T hT => treeR_of (fun c h1 h2 => f1 c (by omega) (by omega)) hT) hx
    refine c_note hi hU (Or.inl rfl) hg hl (by rw [f3]; show (0 : Int) ≤ (p : Int); omega) hx2 ?_
    intro J3 g1 g2 g3
    rw [f3] at g2
    exact hs _ J3 rfl (xFrR_tr (xFrR_sc (fun c c1 c2 _ _ _ _ => f1 c c1 c2) (fun k k1 _ _ => f2 k k1)) g1) g2 g3
set_option maxHeartbeats 1000000 in
theorem st_out_1 {J : Mm} {P0 P1 : Mm → Prop} {i p : Nat} {x : Ix} (hi : i < 6) (hp : p < 320) (hU : xU x = 1) (hk : kyOK (xK x)) (hg : good (xT x)) (hl : (lsT (xT x)).length ≤ 647) (hx : IxR J i x) (hn : nwE (xK x) (imB J 1) (imR J 213 p) (imR J 214 p) p = none → P0 J) (hs : ∀ e J3, nwE (xK x) (imB J 1) (imR J 213 p) (imR J 214 p) p = some e → XFrR J J3 i → IxR J3 i (xTk 0 e x) → cnOK J3 → P1 J3) :
    (rd J 212 50 = 0 → P0 J) ∧ (¬ rd J 212 50 = 0 → CallZ 165 [.inr (3, 0, 0), .inl (1, (i : Int)), .inl (1, (p : Int)), .inr (3, 0, 43), .inl (2, 4)] J (fun x1 J1 => (x1 = 0 → CallV 141 [.inr (3, 0, 0), .inl (1, (i : Int)), .inr (3, 0, 43), .inl (2, 4), .inl (1, (p : Int))] J1 (fun J2 => CallV 161 [.inr (3, 0, 0), .inl (1, (i : Int)), .inl (2, 0)] J2 (fun J3 => P1 J3))) ∧ (¬ x1 = 0 → P0 J1))) := by
  have hC : kyR J i (xK x) := (hx.2 (by omega)).2.1
  refine ⟨fun z => hn (by rw [show imB J 1 = none from imG_none z]; rfl), fun z => ?_⟩
  obtain ⟨y, hy⟩ : ∃ y, imB J 1 = some y := imG_ex z
  rw [hy] at hn hs
  refine callZ_fl (as' := [.inr (3, 0, 0), .inl (1, (i : Int)), .inl (1, (p : Int)), .inr (3, 0, 43), .inl (2, ((4 * 1 : Nat) : Int))]) rfl ?_
  refine c_has (by omega) hi hk hC hp hy ?_
  have hn : (if sk (xK x) (some y) (imR J 213 p) || sk (xK x) (some y) (imR J 214 p) then none else some (kE (xK x) y p)) = none → P0 J := hn
  have hs : ∀ e J3, (if sk (xK x) (some y) (imR J 213 p) || sk (xK x) (some y) (imR J 214 p) then none else some (kE (xK x) y p)) = some e → XFrR J J3 i → IxR J3 i (xTk 0 e x) → cnOK J3 → P1 J3 := hs
  cases e : (sk (xK x) (some y) (imR J 213 p) || sk (xK x) (some y) (imR J 214 p)) with
  | true =>
    rw [e] at hn
    exact ⟨fun z => absurd z (by decide), fun _ => hn rfl⟩
  | false =>
    rw [e] at hs
    refine ⟨fun _ => ?_, fun z => absurd rfl z⟩
    refine callV_fl (as' := [.inr (3, 0, 0), .inl (1, (i : Int)), .inr (8, 255, 0), .inl (1, ((4 * 1 : Nat) : Int)), .inl (1, (p : Int))]) rfl ?_
    refine c_entryOf_8 hi hk hC hp (by omega) (fun f hf => imG_fv hy hf) ?_
    intro J2 f1 f2 f3
    have hx2 : IxR J2 i x := ixR_eq (fun c k h1 h2 _ => rd_of (f1 c (by omega) (by omega)) k) (fun _ => hk.2.1) (fun T hT => treeR_of (fun c h1 h2 => f1 c (by omega) (by omega)) hT) hx
    refine c_note hi hU (Or.inl rfl) hg hl (by rw [f3]; show (0 : Int) ≤ (p : Int); omega) hx2 ?_
    intro J3 g1 g2 g3
    rw [f3] at g2
    exact hs _ J3 rfl (xFrR_tr (xFrR_sc (fun c c1 c2 _ _ _ _ => f1 c c1 c2) (fun k k1 _ _ => f2 k k1)) g1) g2 g3
theorem xFrR_im {I J : Mm} {i : Nat} (h : XFrR I J i) : (∀ p, imR J 213 p = imR I 213 p) ∧ (∀ p, imR J 214 p = imR I 214 p) ∧ imB J 0 = imB I 0 ∧ imB J 1 = imB I 1 := ⟨fun p => imR_cg (h.1 _ (by omega)) (h.1 _ (by omega)) p, fun p => imR_cg (h.1 _ (by omega)) (h.1 _ (by omega)) p, imB_cg (h.1 _ (by omega)) (h.2.1 _ (by omega) (by omega) (by omega)), imB_cg (h.1 _ (by omega)) (h.2.1 _ (by omega) (by omega) (by omega))⟩
def GOp (K : Mm → Prop) (i p : Nat) (L : Mm) : Prop := (rd L 212 49 = 0 → (rd L 212 50 = 0 → ∀ v2_3, v2_3 = wr ((i : Int) + 1) → inR v2_3 → GoA 166 2 [some (.inr (3, 0, 0)), some (.inl (1, (p : Int))), some (.inl (1, v2_3))] [] L (rV K)) ∧ (¬ rd L 212 50 = 0 → CallZ 165 [.inr (3, 0, 0), .inl (1, (i : Int)), .inl (1, (p : Int)), .inr (3, 0, 43), .inl (2, 4)] L (fun x1 I1 => (x1 = 0 → CallV 141 [.inr (3, 0, 0), .inl (1, (i : Int)), .inr (3, 0, 43), .inl (2, 4), .inl (1, (p : Int))] I1 (fun I2 => CallV 161 [.inr (3, 0, 0), .inl (1, (i : Int)), .inl (2, 0)] I2 (fun I3 => ∀ v2_5, v2_5 = wr ((i : Int) + 1) → inR v2_5 → GoA 166 2 [some (.inr (3, 0, 0)), some (.inl (1, (p : Int))), some (.inl (1, v2_5))] [] I3 (rV K)))) ∧ (¬ x1 = 0 → ∀ v2_4, v2_4 = wr ((i : Int) + 1) → inR v2_4 → GoA 166 2 [some (.inr (3, 0, 0)), some (.inl (1, (p : Int))), some (.inl (1, v2_4))] [] I1 (rV K))))) ∧ (¬ rd L 212 49 = 0 → CallZ 165 [.inr (3, 0, 0), .inl (1, (i : Int)), .inl (1, (p : Int)), .inr (3, 0, 43), .inl (2, 0)] L (fun x2 I4 => (x2 = 0 → CallV 141 [.inr (3, 0, 0), .inl (1, (i : Int)), .inr (3, 0, 43), .inl (2, 0), .inl (1, (p : Int))] I4 (fun I8 => CallV 161 [.inr (3, 0, 0), .inl (1, (i : Int)), .inl (2, 0)] I8 (fun I9 => ∀ v2_9, v2_9 = wr ((i : Int) + 1) → inR v2_9 → GoA 166 2 [some (.inr (3, 0, 0)), some (.inl (1, (p : Int))), some (.inl (1, v2_9))] [] I9 (rV K)))) ∧ (¬ x2 = 0 → (rd I4 212 50 = 0 → ∀ v2_6, v2_6 = wr ((i : Int) + 1) → inR v2_6 → GoA 166 2 [some (.inr (3, 0, 0)), some (.inl (1, (p : Int))), some (.inl (1, v2_6))] [] I4 (rV K)) ∧ (¬ rd I4 212 50 = 0 → CallZ 165 [.inr (3, 0, 0), .inl (1, (i : Int)), .inl (1, (p : Int)), .inr (3, 0, 43), .inl (2, 4)] I4 (fun x3 I5 => (x3 = 0 → CallV 141 [.inr (3, 0, 0), .inl (1, (i : Int)), .inr (3, 0, 43), .inl (2, 4), .inl (1, (p : Int))] I5 (fun I6 => CallV 161 [.inr (3, 0, 0), .inl (1, (i : Int)), .inl (2, 0)] I6 (fun I7 => ∀ v2_8, v2_8 = wr ((i : Int) + 1) → inR v2_8 → GoA 166 2 [some (.inr (3, 0, 0)), some (.inl (1, (p : Int))), some (.inl (1, v2_8))] [] I7 (rV K)))) ∧ (¬ x3 = 0 → ∀ v2_7, v2_7 = wr ((i : Int) + 1) → inR v2_7 → GoA 166 2 [some (.inr (3, 0, 0)), some (.inl (1, (p : Int))), some (.inl (1, v2_7))] [] I5 (rV K)))))))
def COp (K : Mm → Prop) (i p : Nat) (J : Mm) : Prop := (0 ≤ (p : Int) ∧ (p : Int) < 320) ∧ ((rd J 216 p = 0 → GOp K i p J) ∧ (¬ rd J 216 p = 0 → CallZ 164 [.inr (3, 0, 0), .inl (1, (i : Int)), .inr (3, 0, 2), .inl (0, 4 * (p : Int))] J (fun x1 J1 => (x1 = 0 → CallV 141 [.inr (3, 0, 0), .inl (1, (i : Int)), .inr (3, 0, 2), .inl (0, 4 * (p : Int)), .inl (1, (p : Int))] J1 (fun J2 => CallV 161 [.inr (3, 0, 0), .inl (1, (i : Int)), .inl (2, 1)] J2 (fun J3 => GOp K i p J3))) ∧ (¬ x1 = 0 → GOp K i p J1))))
theorem xTell_k (w : Rw) (rep : Im) (p : Nat) (x : Ix) : xK (xTell w rep p x) = xK x ∧ xU (xTell w rep p x) = xU x := by
  have one : ∀ (c : Int) (o : Option E) (y : Ix), xK (xT1 c o y) = xK y ∧ xU (xT1 c o y) = xU y := fun c o y => by
    cases o with
    | none => exact ⟨rfl, rfl⟩
    | some e => exact ⟨(xTk_k c e y).1, (xTk_k c e y).2.1⟩
  unfold xTell
  split
  · exact ⟨rfl, rfl⟩
  · rw [(one _ _ _).1, (one _ _ _).1, (one _ _ _).2, (one _ _ _).2]
    exact ⟨rfl, rfl⟩
theorem xTk_5 {c : Int} {e : E} {x : Ix} (h : xS x = 5) : xTk c e x = x := by
  unfold xTk
  rw [if_neg (by omega), if_neg (by omega)]
theorem xT1_5 {c : Int} {o : Option E} {x : Ix} (h : xS x = 5) : xT1 c o x = x := by
  cases o with
  | none => rfl
  | some e => exact xTk_5 h
set_option maxHeartbeats 4000000 in
theorem c_changed {I : Mm} {K : Mm → Prop} {p fa : Nat} {w : Rw} {rep : Im} {X : Nat → Ix} (hp : p < 320) (hw : RowR I w) (hc : cnOK I) (hX : ∀ i, i < 6 → IxR I i (X i)) (ht : ∀ i, i < 6 → tlOK (X i))
    (hb : (imB I 0 = w.1 p ∧ imB I 1 = rep) ∨ (imB I 1 = w.1 p ∧ w.2.1 p = w.1 p ∧ imB I 0 = rep))
    (hK : ∀ J : Mm, FrA I J → cnOK J → (∀ i, i < 6 → IxR J i (xTell w rep p (X i))) → K J) : CallV 166 [.inr (3, 0, 0), .inl (fa, (p : Int))] I K := by
  refine callV_fl (as' := [.inr (3, 0, 0), .inl (1, (p : Int))]) rfl ?_
  have cE : ∀ k, chE k (w.1 p) (w.2.1 p) (imB I 0) (imB I 1) p = nwE k (w.2.1 p) rep (w.1 p) p ∧ chE k (imB I 0) (imB I 1) (w.1 p) (w.2.1 p) p = nwE k rep (w.2.1 p) (w.1 p) p := fun k => by
    rcases hb with ⟨h1, h2⟩ | ⟨h1, h2, h3⟩
    · rw [h1, h2]
      refine ⟨?_, ?_⟩
      · rw [chE_of (nwE_l _ _ _ _), nwE_c]
      · rw [chE_of (nwE_l _ _ _ _), nwE_c]
    · rw [h1, h2, h3]
      refine ⟨?_, ?_⟩
      · rw [chE_of (by rw [nwE_c]; exact nwE_l _ _ _ _), nwE_c, nwE_l]
      · rw [chE_fst (nwE_l _ _ _ _)]
  have rI := hw p hp
  have loop : ∀ (d i : Nat) (J : Mm), i + d = 6 → FrA I J → cnOK J → (∀ j, j < i → IxR J j (xTell w rep p (X j))) → (∀ j, i ≤ j → j < 6 → IxR J j (X j)) → GoA 166 2 [some (.inr (3, 0, 0)), some (.inl (1, (p : Int))), some (.inl (1, (i : Int)))] [] J (rV K) := by
    intro d
    induction d with
    | zero =>
      intro i J hi f1 f2 f3 f4
      refine b_r_changed_2 (inRn (by omega)) (inRn (by omega)) ⟨fun _ => ?_, fun z => absurd (by omega) z⟩
      exact hK J f1 f2 (fun j hj => f3 j (by omega))
    | succ d ih =>
      intro i J hi f1 f2 f3 f4
      have i6 : i < 6 := by omega
      have hx := f4 i (Nat.le_refl _) i6
      have m3 : imR J 213 p = w.1 p := by rw [imR_cg (f1.1 _ (by omega)) (f1.1 _ (by omega))]; exact rI.1
      have m4 : imR J 214 p = w.2.1 p := by rw [imR_cg (f1.1 _ (by omega)) (f1.1 _ (by omega))]; exact rI.2.1
      have mb0 : imB J 0 = imB I 0 := imB_cg (f1.1 _ (by omega)) (f1.2 _ (by omega) (by omega) (by omega))
      have mb1 : imB J 1 = imB I 1 := imB_cg (f1.1 _ (by omega)) (f1.2 _ (by omega) (by omega) (by omega))
      -- the next index
      have nx : ∀ J' : Mm, XFrR J J' i → cnOK J' → IxR J' i (xTell w rep p (X i)) → ∀ v : Int, v = wr ((i : Int) + 1) → inR v → GoA 166 2 [some (.inr (3, 0, 0)), some (.inl (1, (p : Int))), some (.inl (1, v))] [] J' (rV K) := by
        intro J' g1 g2 g3 v ev _
        rw [wrn (i + 1) (by omega) (by omega)] at ev
        subst ev
        have k3 : ∀ j, j < 6 → ¬ xU (X j) = 0 → (xK (X j)).1 ≤ 3 := fun j hj hz => by
          rcases ht j hj with a | a
          · exact absurd a hz
          · exact a.2.1.2.1
        have k3' : ∀ j, j < 6 → ¬ xU (xTell w rep p (X j)) = 0 → (xK (xTell w rep p (X j))).1 ≤ 3 := fun j hj hz => by
          have e := xTell_k w rep p (X j)
          rw [e.2] at hz
          rw [e.1]
          exact k3 j hj hz
        refine ih (i + 1) J' (by omega) ⟨fun c hc => by rw [g1.1 c hc, f1.1 c hc], fun k a b c => by rw [g1.2.1 k a b c, f1.2 k a b c]⟩ g2 (fun j hj => ?_) (fun j h1 h2 => ixR_fr h2 (by omega) g1 (k3 j h2) (f4 j (by omega) h2))
        by_cases c : j = i
        · subst c; exact g3
        · exact ixR_fr (by omega) c g1 (k3' j (by omega)) (f3 j (by omega))
      refine b_r_changed_2 (inRn (by omega)) (inRn (by omega)) ⟨fun z => absurd z (by omega), fun _ => ?_⟩
      rw [Int.toNat_natCast, hx.1, Int.toNat_natCast]
      refine ⟨by omega, fun z => ?_, fun z => ⟨by omega, ?_⟩⟩
      · exact nx J (xFrR_rfl J i) f2 (by unfold xTell; rw [if_pos z]; exact hx)
      rcases ht i i6 with a | ⟨hU, hk, hg, hl, hP⟩
      · exact absurd a z
      obtain ⟨b1, b2, b3, b4, b5, b6, b7, b8⟩ := hx.2 z
      have eT : xTell w rep p (X i) = xT1 0 (chE (xK (X i)) (imB I 0) (imB I 1) (w.1 p) (w.2.1 p) p) (xT1 1 (chE (xK (X i)) (w.1 p) (w.2.1 p) (imB I 0) (imB I 1) p) (X i)) := by
        unfold xTell
        rw [if_neg z, (cE _).1, (cE _).2]
      rw [eT] at nx
      rw [b4.1]
      refine ⟨fun z5 => ?_, fun z5 => ⟨by omega, ?_⟩⟩
      · exact nx J (xFrR_rfl J i) f2 (by rw [xT1_5 (x := X i) z5, xT1_5 z5]; exact hx)
      -- what goes
      have going : ∀ (L : Mm) (y : Ix), XFrR J L i → cnOK L → IxR L i y → xK y = xK (X i) → xU y = 1 → good (xT y) → (lsT (xT y)).length ≤ 647 → y = xT1 1 (chE (xK (X i)) (w.1 p) (w.2.1 p) (imB I 0) (imB I 1) p) (X i) → GOp K i p L := by
        intro L y gX gc gx yk yU yg yl ey
        obtain ⟨n1, n2, n3, n4⟩ := xFrR_im gX
        rw [← ey] at nx
        have fin : ∀ (M : Mm) (o : Option E), XFrR L M i → cnOK M → o = chE (xK (X i)) (imB I 0) (imB I 1) (w.1 p) (w.2.1 p) p → IxR M i (xT1 0 o y) → ∀ v : Int, v = wr ((i : Int) + 1) → inR v → GoA 166 2 [some (.inr (3, 0, 0)), some (.inl (1, (p : Int))), some (.inl (1, v))] [] M (rV K) := fun M o h1 h2 h3 h4 => nx M (xFrR_tr gX h1) h2 (by rw [← h3]; exact h4)
        have e0 : nwE (xK y) (imB L 0) (imR L 213 p) (imR L 214 p) p = nwE (xK (X i)) (imB I 0) (w.1 p) (w.2.1 p) p := by rw [yk, n3, mb0, n1, m3, n2, m4]
        have e1 : nwE (xK y) (imB L 1) (imR L 213 p) (imR L 214 p) p = nwE (xK (X i)) (imB I 1) (w.1 p) (w.2.1 p) p := by rw [yk, n4, mb1, n1, m3, n2, m4]
        have hk' : kyOK (xK y) := by rw [yk]; exact hk
        have cur : nwE (xK (X i)) (imB I 0) (w.1 p) (w.2.1 p) p = none → _ := fun h0 => st_out_1 (J := L) (P0 := fun L => ∀ v : Int, v = wr ((i : Int) + 1) → inR v → GoA 166 2 [some (.inr (3, 0, 0)), some (.inl (1, (p : Int))), some (.inl (1, v))] [] L (rV K)) (P1 := fun L => ∀ v : Int, v = wr ((i : Int) + 1) → inR v → GoA 166 2 [some (.inr (3, 0, 0)), some (.inl (1, (p : Int))), some (.inl (1, v))] [] L (rV K)) i6 hp yU hk' yg yl gx (fun h1 => fin L none (xFrR_rfl L i) gc (by rw [chE_of h0, ← e1, h1]) gx) (fun e M h1 q1 q2 q3 => fin M (some e) q1 q3 (by rw [chE_of h0, ← e1, h1]) q2)
        exact st_out_0 (J := L) (P0 := fun L => (rd L 212 50 = 0 → ∀ v2_3, v2_3 = wr ((i : Int) + 1) → inR v2_3 → GoA 166 2 [some (.inr (3, 0, 0)), some (.inl (1, (p : Int))), some (.inl (1, v2_3))] [] L (rV K)) ∧ (¬ rd L 212 50 = 0 → CallZ 165 [.inr (3, 0, 0), .inl (1, (i : Int)), .inl (1, (p : Int)), .inr (3, 0, 43), .inl (2, 4)] L (fun x1 I1 => (x1 = 0 → CallV 141 [.inr (3, 0, 0), .inl (1, (i : Int)), .inr (3, 0, 43), .inl (2, 4), .inl (1, (p : Int))] I1 (fun I2 => CallV 161 [.inr (3, 0, 0), .inl (1, (i : Int)), .inl (2, 0)] I2 (fun I3 => ∀ v2_5, v2_5 = wr ((i : Int) + 1) → inR v2_5 → GoA 166 2 [some (.inr (3, 0, 0)), some (.inl (1, (p : Int))), some (.inl (1, v2_5))] [] I3 (rV K)))) ∧ (¬ x1 = 0 → ∀ v2_4, v2_4 = wr ((i : Int) + 1) → inR v2_4 → GoA 166 2 [some (.inr (3, 0, 0)), some (.inl (1, (p : Int))), some (.inl (1, v2_4))] [] I1 (rV K))))) (P1 := fun L => ∀ v : Int, v = wr ((i : Int) + 1) → inR v → GoA 166 2 [some (.inr (3, 0, 0)), some (.inl (1, (p : Int))), some (.inl (1, v))] [] L (rV K)) i6 hp yU hk' yg yl gx (fun h0 => cur (by rw [← e0]; exact h0)) (fun e M h1 q1 q2 q3 => fin M (some e) q1 q3 (by unfold chE; rw [← e0, h1]) q2)
      -- what comes
      have e3 : nwE (xK (X i)) (imR J 213 p) (imB J 0) (imB J 1) p = nwE (xK (X i)) (w.1 p) (imB I 0) (imB I 1) p := by rw [mb0, mb1, m3]
      have e4 : nwE (xK (X i)) (imR J 214 p) (imB J 0) (imB J 1) p = nwE (xK (X i)) (w.2.1 p) (imB I 0) (imB I 1) p := by rw [mb0, mb1, m4]
      have goA : ∀ (o : Option E) (M : Mm), o = chE (xK (X i)) (w.1 p) (w.2.1 p) (imB I 0) (imB I 1) p → XFrR J M i → IxR M i (xT1 1 o (X i)) → cnOK M → _ := fun o M h1 q1 q2 q3 => going M (xT1 1 o (X i)) q1 q3 q2 (by cases o with
          | none => rfl
          | some e => exact (xTk_k 1 e (X i)).1) (by cases o with
          | none => exact hU
          | some e => exact (xTk_k 1 e (X i)).2.1.trans hU) (by cases o with
          | none => exact hg
          | some e => exact (xTk_t hg).1) (by cases o with
          | none => show (lsT (xT (X i))).length ≤ 647; omega
          | some e => exact Nat.le_trans (xTk_t hg).2 (by omega)) (by rw [h1])
      refine st_in_213 (P0 := COp K i p) (P1 := GOp K i p) i6 hp hU hk hg (by omega) hx (fun h0 => ?_) (fun e M h1 q1 q2 q3 => goA (some e) M (by unfold chE; rw [← e3, h1]) q1 q2 q3)
      rw [e3] at h0
      refine ⟨by omega, ?_⟩
      exact st_in_214 (P0 := GOp K i p) (P1 := GOp K i p) i6 hp hU hk hg (by omega) hx (fun h4 => goA none J (by rw [chE_of h0, ← e4, h4]) (xFrR_rfl J i) hx f2) (fun e M h4 q1 q2 q3 => goA (some e) M (by rw [chE_of h0, ← e4, h4]) q1 q2 q3)
  refine callV_of rfl (b_r_changed (inRn (by omega)) ?_)
  exact loop 6 0 I (by omega) ⟨fun _ _ => rfl, fun _ _ _ _ => rfl⟩ hc (fun j hj => absurd hj (by omega)) (fun j _ hj => hX j hj)
