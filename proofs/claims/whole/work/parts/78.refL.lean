/-! THE REFERENCE: scan, load, catch, step -/
theorem setG_i (x : Ix) : setG x (xG x) = x := rfl
theorem sk_sym {k : Ky} {a b : F4} : decide (kE k a 0 = kE k b 0) = sk k (some b) (some a) := by
  show _ = decide (kE k b 0 = kE k a 0)
  exact decide_eq_decide.mpr eq_comm
set_option maxHeartbeats 4000000 in
theorem c_rscan {I : Mm} {K : Mm → Prop} {i fa : Nat} {x : Ix} {w : Rw} (hi : i < 6) (hc : cnOK I) (hU : xU x = 1) (hx : IxR I i x) (hk : kyOK (xK x)) (hw : RowR I w) (hS : xS x = 1) (hP : xP x < 40) (hst : srtG (xG x)) (hl : (xG x).length ≤ 16 * xP x)
    (hK : ∀ J : Mm, XFrR I J i → IxR J i (xScan w x) → cnOK J → K J) : CallV 187 [.inr (3, 0, 0), .inl (fa, (i : Int))] I K := by
  have b0 := hx.2 (by omega)
  have r9 : rd I 229 i = xP x := b0.2.2.2.1.2
  have loop : ∀ (d k : Nat) (J : Mm) (G : List E), k + d = 8 → XFrR I J i → cnOK J → IxR J i (setG x G) → srtG G → G.length ≤ 16 * xP x + 2 * k → scG (xK x) w d (8 * xP x + k) G = scG (xK x) w 8 (8 * xP x) (xG x) → GoA 187 10 [some (.inr (3, 0, 0)), some (.inl (1, (i : Int))), some (.inl (1, ((8 * xP x + k : Nat) : Int)))] [] J (rV K) := by
    intro d
    induction d with
    | zero =>
      intro k J G hkd f0 fc f2 f3 f4 f5
      obtain ⟨c1, c2, c3, c4, c5, c6, c7, c8⟩ := f2.2 (by show ¬ xU x = 0; omega)
      have r9 : rd J 229 i = xP x := c4.2
      have wv : wr (8 * ((xP x : Nat) : Int) + 8) = ((8 * xP x + 8 : Nat) : Int) := wrn _ (by omega) (by omega)
      refine b_r_scanStep_10 (inRn (by omega)) (inRn (by omega)) ⟨by omega, ?_⟩
      simp only [Int.toNat_natCast]
      rw [r9, wv]
      refine ⟨fun _ => ⟨by omega, by omega, fun I1 e1 => ?_⟩, fun z => absurd (by omega) z⟩
      have f5' : G = scG (xK x) w 8 (8 * xP x) (xG x) := f5
      have v9 : rd I1 229 i = ((xP x + 1 : Nat) : Int) := by rw [e1, rd_wt_s _ _ _ ⟨by omega, by omega⟩]; rfl
      have fin : ∀ (s : Int) (I2 : Mm), inR s → s = (if xP x + 1 < 40 then xS x else 2) → I2 = wt I1 228 i s → K I2 := by
        intro s I2 hs es e2
        have q : ∀ c s', c ≠ 228 → c ≠ 229 → rd I2 c s' = rd J c s' := fun c s' h1 h2 => by rw [e2, rd_wt_a _ _ _ _ h1, e1, rd_wt_a _ _ _ _ h2]
        have qc : ∀ c, c ≠ 228 → c ≠ 229 → I2 c = J c := fun c h1 h2 => by rw [e2, wt_a _ _ _ _ h1, e1, wt_a _ _ _ _ h2]
        refine hK I2 (xFrR_tr f0 (xFrR_tr (show XFrR J I1 i by rw [e1]; exact xFrR_wt (by omega) (by omega) (ow_d rfl (by omega) (by omega) (by omega) (by omega) (by omega) (by omega))) (show XFrR I1 I2 i by rw [e2]; exact xFrR_wt (by omega) (by omega) (ow_d rfl (by omega) (by omega) (by omega) (by omega) (by omega) (by omega))))) ?_ (cnOK_cg (qc _ (by omega) (by omega)) fc)
        refine ixR_ch (x := setG x G) (y := xScan w x) f2 hU hk.2.1 (q _ _ (by omega) (by omega)) (q _ _ (by omega) (by omega)) (q _ _ (by omega) (by omega)) (fun j _ => q _ _ (by omega) (by omega)) rfl rfl ⟨by rw [e2, rd_wt_s _ _ _ hs, es]; rfl, by rw [e2, rd_wt_a _ _ _ _ (by omega), v9]; rfl⟩ ⟨by rw [q _ _ (by omega) (by omega)]; exact c5.1, by rw [q _ _ (by omega) (by omega)]; exact c5.2.1, by rw [q _ _ (by omega) (by omega)]; exact c5.2.2⟩ (treeR_of (fun c h1 h2 => qc c (by omega) (by omega)) c6) (logR_eq' (fun c s' h1 h2 => q c s' (by omega) (by omega)) c7) ?_
        show PkR I2 i (if xP x + 1 < 40 then xS x else 2) (scG (xK x) w 8 (8 * xP x) (xG x))
        rw [← f5']
        intro _
        obtain ⟨tk, t0, t1, t2, t3, t4⟩ := c8 (Or.inl hS)
        exact ⟨tk, fun _ => t0 hS, t1, by rw [q _ _ (by omega) (by omega)]; exact t2, by rw [q _ _ (by omega) (by omega)]; exact t3, fun j e hj => by rw [pkE_of (fun s' _ _ => q _ s' (by omega) (by omega)) (q _ _ (by omega) (by omega))]; exact t4 j e hj⟩
      rw [v9]
      refine ⟨by omega, fun z => ⟨by omega, fun I3 e3 => fin 2 I3 ⟨by omega, by omega⟩ (by rw [if_neg (by omega)]) e3⟩, fun z => ⟨by omega, fun I3 e3 => fin 1 I3 ⟨by omega, by omega⟩ (by rw [if_pos (by omega), hS]) e3⟩⟩
    | succ d ih =>
      intro k J G hkd f0 fc f2 f3 f4 f5
      obtain ⟨p, hp⟩ : ∃ p, p = 8 * xP x + k := ⟨_, rfl⟩
      have p320 : p < 320 := by omega
      obtain ⟨c1, c2, c3, c4, c5, c6, c7, c8⟩ := f2.2 (by show ¬ xU x = 0; omega)
      have r9 : rd J 229 i = xP x := c4.2
      have wv : wr (8 * ((xP x : Nat) : Int) + 8) = ((8 * xP x + 8 : Nat) : Int) := wrn _ (by omega) (by omega)
      have nx : ∀ (J1 : Mm) (G1 : List E) (v : Int), v = wr ((p : Int) + 1) → XFrR I J1 i → cnOK J1 → IxR J1 i (setG x G1) → srtG G1 → G1.length ≤ 16 * xP x + 2 * k + 2 → scG (xK x) w d (p + 1) G1 = scG (xK x) w 8 (8 * xP x) (xG x) → GoA 187 10 [some (.inr (3, 0, 0)), some (.inl (1, (i : Int))), some (.inl (1, v))] [] J1 (rV K) := fun J1 G1 v ev g0 gc g2 g3 g4 g5 => by
        rw [wrn (8 * xP x + (k + 1)) (by omega) (by omega)] at ev
        subst ev
        exact ih (k + 1) J1 G1 (by omega) g0 gc g2 g3 (by omega) (by rw [show 8 * xP x + (k + 1) = p + 1 by omega]; exact g5)
      -- an entry is made and picked
      have mk : ∀ (a : Nat) (J1 : Mm) (G1 : List E) (y : F4) (K1 : Mm → Prop), isA a → XFrR I J1 i → cnOK J1 → IxR J1 i (setG x G1) → srtG G1 → G1.length < 640 → imR J1 a p = some y → (∀ J3 : Mm, XFrR I J3 i → cnOK J3 → IxR J3 i (setG x (insG (kE (xK x) y p) G1)) → K1 J3) → CallV 141 [.inr (3, 0, 0), .inl (1, (i : Int)), .inr (7, a, 0), .inl (1, ((4 * p : Nat) : Int)), .inl (1, (p : Int))] J1 (fun I9 => CallV 185 [.inr (3, 0, 0), .inl (1, (i : Int))] I9 K1) := fun a J1 G1 y K1 ha g0 gc g2 g3 g4 hy hk1 => by
        obtain ⟨_, d2, _⟩ := g2.2 (by show ¬ xU x = 0; omega)
        refine c_entryOf_7 ha hi hk d2 p320 (by omega) (fun f hf => imG_fv hy hf) ?_
        intro J2 h1 h2 h3
        have x2 : IxR J2 i (setG x G1) := ixR_cg (fun c c1 c2 => h1 c (by omega) (by omega)) g2
        refine c_rpick (x := setG x G1) hi hU hk.2.1 x2 hS g3 g4 ?_
        intro J3 z1 z2 z3
        rw [h3] at z3
        exact hk1 J3 (xFrR_tr g0 (xFrR_tr (xFrR_sc (fun c c1 c2 _ _ _ _ => h1 c c1 c2) (fun k' k1 _ _ => h2 k' k1)) z1)) (cnOK_cg (by rw [z2 _ (by omega) (by omega) (by omega), h1 _ (by omega) (by omega)]) gc) z3
      have step2 : ∀ (J1 : Mm) (G1 : List E), XFrR I J1 i → cnOK J1 → IxR J1 i (setG x G1) → srtG G1 → G1.length ≤ 16 * xP x + 2 * k + 1 → scG (xK x) w d (p + 1) (insA G1 (enB (xK x) w p)) = scG (xK x) w 8 (8 * xP x) (xG x) → (0 ≤ (p : Int) ∧ (p : Int) < 320) ∧ ((rd J1 216 (p : Int).toNat = 0 → ∀ v2_1, v2_1 = wr ((p : Int) + 1) → inR v2_1 → GoA 187 10 [some (.inr (3, 0, 0)), some (.inl (1, (i : Int))), some (.inl (1, v2_1))] [] J1 (rV K)) ∧ (¬ rd J1 216 (p : Int).toNat = 0 → (0 ≤ (p : Int) ∧ (p : Int) < 320) ∧ ((rd J1 215 (p : Int).toNat = 0 → CallV 141 [.inr (3, 0, 0), .inl (1, (i : Int)), .inr (3, 0, 2), .inl (0, 4 * (p : Int)), .inl (1, (p : Int))] J1 (fun I4 => CallV 185 [.inr (3, 0, 0), .inl (1, (i : Int))] I4 (fun I5 => ∀ v2_2, v2_2 = wr ((p : Int) + 1) → inR v2_2 → GoA 187 10 [some (.inr (3, 0, 0)), some (.inl (1, (i : Int))), some (.inl (1, v2_2))] [] I5 (rV K)))) ∧ (¬ rd J1 215 (p : Int).toNat = 0 → CallZ 163 [.inr (3, 0, 0), .inl (1, (i : Int)), .inr (3, 0, 1), .inl (0, 4 * (p : Int)), .inr (3, 0, 2), .inl (0, 4 * (p : Int))] J1 (fun x1 I6 => (x1 = 0 → CallV 141 [.inr (3, 0, 0), .inl (1, (i : Int)), .inr (3, 0, 2), .inl (0, 4 * (p : Int)), .inl (1, (p : Int))] I6 (fun I7 => CallV 185 [.inr (3, 0, 0), .inl (1, (i : Int))] I7 (fun I8 => ∀ v2_4, v2_4 = wr ((p : Int) + 1) → inR v2_4 → GoA 187 10 [some (.inr (3, 0, 0)), some (.inl (1, (i : Int))), some (.inl (1, v2_4))] [] I8 (rV K)))) ∧ (¬ x1 = 0 → ∀ v2_3, v2_3 = wr ((p : Int) + 1) → inR v2_3 → GoA 187 10 [some (.inr (3, 0, 0)), some (.inl (1, (i : Int))), some (.inl (1, v2_3))] [] I6 (rV K))))))) := by
        intro J1 G1 g0 gc g2 g3 g4 g5
        have hw1 : RowR J1 w := rowR_cg (fun c h1 h2 => g0.1 c (by omega)) hw
        obtain ⟨cm, cu, _, _, _⟩ := hw1 p p320
        obtain ⟨_, d2, _⟩ := g2.2 (by show ¬ xU x = 0; omega)
        simp only [Int.toNat_natCast]
        unfold enB at g5
        refine ⟨by omega, fun z v ev _ => ?_, fun z => ⟨by omega, ?_⟩⟩
        · have cn : imR J1 214 p = none := imG_none z
          rw [cn] at cu
          rw [← cu] at g5
          exact nx J1 G1 v ev g0 gc g2 g3 (by omega) g5
        · obtain ⟨y, hy⟩ : ∃ y, imR J1 214 p = some y := imG_ex z
          rw [hy] at cu
          rw [← cu] at g5
          have mkB : sk (xK x) (some y) (w.1 p) = false → CallV 141 [.inr (3, 0, 0), .inl (1, (i : Int)), .inr (3, 0, 2), .inl (0, 4 * (p : Int)), .inl (1, (p : Int))] J1 (fun I4 => CallV 185 [.inr (3, 0, 0), .inl (1, (i : Int))] I4 (fun I5 => ∀ v2_2, v2_2 = wr ((p : Int) + 1) → inR v2_2 → GoA 187 10 [some (.inr (3, 0, 0)), some (.inl (1, (i : Int))), some (.inl (1, v2_2))] [] I5 (rV K))) := fun s1 => by
            refine callV_fl (as' := [.inr (3, 0, 0), .inl (1, (i : Int)), .inr (7, 214, 0), .inl (1, ((4 * p : Nat) : Int)), .inl (1, (p : Int))]) rfl ?_
            refine mk 214 J1 G1 y _ (Or.inr rfl) g0 gc g2 g3 (by omega) hy ?_
            intro J3 z0 zc z2 v ev _
            simp only [s1] at g5
            exact nx J3 _ v ev z0 zc z2 (insG_srt g3) (by rw [insG_len]; omega) g5
          refine ⟨fun z2 => mkB ?_, fun z2 => ?_⟩
          · have cn : imR J1 213 p = none := imG_none z2
            rw [cn] at cm
            rw [← cm]
            rfl
          · obtain ⟨y0, hy0⟩ : ∃ y0, imR J1 213 p = some y0 := imG_ex z2
            rw [hy0] at cm
            refine callZ_fl (as' := [.inr (3, 0, 0), .inl (1, (i : Int)), .inr (7, 213, 0), .inl (1, ((4 * p : Nat) : Int)), .inr (7, 214, 0), .inl (1, ((4 * p : Nat) : Int))]) rfl ?_
            refine c_same_77 (Or.inl rfl) (Or.inr rfl) hi hk d2 (by omega) (by omega) (fun f hf => imG_fv hy0 hf) (fun f hf => imG_fv hy hf) ?_
            rw [sk_sym, cm]
            cases s1 : sk (xK x) (some y) (w.1 p) with
            | true =>
              refine ⟨fun z3 => absurd z3 (by decide), fun _ v ev _ => ?_⟩
              simp only [s1, if_true] at g5
              exact nx J1 G1 v ev g0 gc g2 g3 (by omega) g5
            | false => exact ⟨fun _ => mkB s1, fun z3 => absurd rfl z3⟩
      have hwJ : RowR J w := rowR_cg (fun c h1 h2 => f0.1 c (by omega)) hw
      obtain ⟨cm, _⟩ := hwJ p p320
      rw [← hp] at f5
      have f5 : scG (xK x) w d (p + 1) (insA (insA G (enA (xK x) w p)) (enB (xK x) w p)) = scG (xK x) w 8 (8 * xP x) (xG x) := f5
      rw [← hp]
      refine b_r_scanStep_10 (inRn (by omega)) (inRn (by omega)) ⟨by omega, ?_⟩
      have r9' : rd J 229 ((i : Int)).toNat = xP x := by rw [Int.toNat_natCast]; exact r9
      rw [r9', wv]
      refine ⟨fun z => absurd z (by omega), fun _ => ⟨by omega, fun z => ?_, fun z => ?_⟩⟩
      · rw [Int.toNat_natCast] at z
        have cn : imR J 213 p = none := imG_none z
        rw [cn] at cm
        refine step2 J G f0 fc f2 f3 (by omega) ?_
        unfold enA at f5
        rw [← cm] at f5
        exact f5
      · rw [Int.toNat_natCast] at z
        obtain ⟨y, hy⟩ : ∃ y, imR J 213 p = some y := imG_ex z
        rw [hy] at cm
        refine callV_fl (as' := [.inr (3, 0, 0), .inl (1, (i : Int)), .inr (7, 213, 0), .inl (1, ((4 * p : Nat) : Int)), .inl (1, (p : Int))]) rfl ?_
        refine mk 213 J G y _ (Or.inl rfl) f0 fc f2 f3 (by omega) hy ?_
        intro J3 z0 zc z2
        refine step2 J3 _ z0 zc z2 (insG_srt f3) (by rw [insG_len]; omega) ?_
        unfold enA at f5
        rw [← cm] at f5
        exact f5
  refine callV_fl (as' := [.inr (3, 0, 0), .inl (1, (i : Int))]) rfl ?_
  refine callV_of rfl (b_r_scanStep (inRn (by omega)) ⟨by omega, fun v ev _ => ?_⟩)
  rw [Int.toNat_natCast, r9, wrn (8 * xP x) (by omega) (by omega)] at ev
  subst ev
  exact loop 8 0 I (xG x) (by omega) (xFrR_rfl I i) hc hx hst (by omega) rfl
set_option maxHeartbeats 4000000 in
theorem c_rload {I : Mm} {K : Mm → Prop} {i fa : Nat} {x : Ix} (hi : i < 6) (hc : cnOK I) (hU : xU x = 1) (hk : (xK x).1 ≤ 3) (hS : xS x = 2) (hx : IxR I i x) (hg : good (xT x)) (hl : (lsT (xT x)).length + (xG x).length ≤ 647)
    (hK : ∀ J : Mm, XFrR I J i → IxR J i (ld 16 x) → cnOK J → K J) : CallV 188 [.inr (3, 0, 0), .inl (fa, (i : Int))] I K := by
  have loop : ∀ (d n : Nat) (J : Mm) (y : Ix) (m3 m4 : Option AV), okO m3 → okO m4 → n + d = 16 → XFrR I J i → cnOK J → IxR J i y → xU y = 1 → (xK y).1 ≤ 3 → xS y = 2 → good (xT y) → (lsT (xT y)).length + (xG y).length ≤ 647 → ld d y = ld 16 x → GoA 188 2 [some (.inr (3, 0, 0)), some (.inl (1, (i : Int))), some (.inl (1, (n : Int))), m3, m4] [] J (rV K) := by
    intro d
    induction d with
    | zero =>
      intro n J y m3 m4 o3 o4 hn hF fc hy hUy hky hSy hgy hly hld
      have st : ∀ I1, I1 = wt J 228 ((i : Int)).toNat 2 → rV K none I1 := fun I1 e1 => by
        rw [Int.toNat_natCast] at e1
        obtain ⟨b1, b2, b3, b4, b5, b6, b7, b8⟩ := hy.2 (by omega)
        have q : ∀ c s', c ≠ 228 → rd I1 c s' = rd J c s' := fun c s' h1 => by rw [e1, rd_wt_a _ _ _ _ h1]
        have hld : y = ld 16 x := hld
        rw [← hld] at hK
        refine hK I1 (xFrR_tr hF (by rw [e1]; exact xFrR_wt (by omega) (by omega) (ow_d rfl (by omega) (by omega) (by omega) (by omega) (by omega) (by omega)))) ?_ (cnOK_cg (by rw [e1, wt_a _ _ _ _ (by omega)]) fc)
        refine ixR_ch (x := y) (y := y) hy hUy hky (q _ _ (by omega)) (q _ _ (by omega)) (q _ _ (by omega)) (fun j _ => q _ _ (by omega)) rfl rfl ⟨by rw [e1, rd_wt_s _ _ _ ⟨by omega, by omega⟩, hSy], by rw [q _ _ (by omega)]; exact b4.2⟩ ⟨by rw [q _ _ (by omega)]; exact b5.1, by rw [q _ _ (by omega)]; exact b5.2.1, by rw [q _ _ (by omega)]; exact b5.2.2⟩ (treeR_of (fun c h1 h2 => by rw [e1, wt_a _ _ _ _ (by omega)]) b6) (logR_eq' (fun c s' h1 h2 => q c s' (by omega)) b7) ?_
        intro h12
        obtain ⟨tk, t0, t1, t2, t3, t4⟩ := b8 h12
        exact ⟨tk, t0, t1, by rw [q _ _ (by omega)]; exact t2, by rw [q _ _ (by omega)]; exact t3, fun j e hj => by rw [pkE_of (fun s' _ _ => q _ s' (by omega)) (q _ _ (by omega))]; exact t4 j e hj⟩
      refine b_r_loadStep_2 (inRn (by omega)) (inRn (by omega)) o3 o4 ⟨fun _ => ⟨fun _ => ⟨by omega, st⟩, fun z => absurd (by omega) z⟩, fun z => absurd (by omega) z⟩
    | succ d ih =>
      intro n J y m3 m4 o3 o4 hn hF fc hy hUy hky hSy hgy hly hld
      obtain ⟨b1, b2, b3, b4, b5, b6, b7, b8⟩ := hy.2 (by omega)
      obtain ⟨tk, t0, t1, t2, t3, t4⟩ := b8 (Or.inr hSy)
      have t2' : rd J 237 ((i : Int)).toNat = ((tk + (xG y).length : Nat) : Int) := by rw [Int.toNat_natCast]; exact t2
      have t3' : rd J 238 ((i : Int)).toNat = (tk : Int) := by rw [Int.toNat_natCast]; exact t3
      refine b_r_loadStep_2 (inRn (by omega)) (inRn (by omega)) o3 o4 ⟨fun z => absurd z (by omega), fun _ => ⟨by omega, by omega, ?_⟩⟩
      rw [t2', t3']
      cases hG : xG y with
      | nil =>
        refine ⟨fun _ => ⟨fun z => absurd z (by omega), fun _ => ⟨by omega, fun I1 e1 => ?_⟩⟩, fun z => absurd (by show ((tk + 0 : Nat) : Int) ≤ tk; omega) z⟩
        rw [Int.toNat_natCast] at e1
        have q : ∀ c s', c ≠ 228 → rd I1 c s' = rd J c s' := fun c s' h1 => by rw [e1, rd_wt_a _ _ _ _ h1]
        have hld' : ld (d + 1) y = setS y 3 := by show (match xG y with | [] => setS y 3 | e :: G => _) = _; rw [hG]
        rw [← hld, hld'] at hK
        refine hK I1 (xFrR_tr hF (by rw [e1]; exact xFrR_wt (by omega) (by omega) (ow_d rfl (by omega) (by omega) (by omega) (by omega) (by omega) (by omega)))) ?_ (cnOK_cg (by rw [e1, wt_a _ _ _ _ (by omega)]) fc)
        refine ixR_ch (x := y) (y := setS y 3) hy hUy hky (q _ _ (by omega)) (q _ _ (by omega)) (q _ _ (by omega)) (fun j _ => q _ _ (by omega)) rfl rfl ⟨by rw [e1, rd_wt_s _ _ _ ⟨by omega, by omega⟩]; rfl, by rw [q _ _ (by omega)]; exact b4.2⟩ ⟨by rw [q _ _ (by omega)]; exact b5.1, by rw [q _ _ (by omega)]; exact b5.2.1, by rw [q _ _ (by omega)]; exact b5.2.2⟩ (treeR_of (fun c h1 h2 => by rw [e1, wt_a _ _ _ _ (by omega)]) b6) (logR_eq' (fun c s' h1 h2 => q c s' (by omega)) b7) ?_
        intro h12
        have h12 : (3 : Int) = 1 ∨ (3 : Int) = 2 := h12
        exact absurd h12 (by decide)
      | cons e G =>
        rw [hG] at t1 t2 t4 hly
        have gl : (e :: G).length = G.length + 1 := rfl
        rw [gl] at t1 t2 hly
        refine ⟨fun z => absurd z (by rw [gl]; omega), fun _ => ⟨by omega, fun v ev _ => ?_⟩⟩
        obtain ⟨k, ek⟩ : ∃ k, k = 640 * i + tk := ⟨_, rfl⟩
        have k38 : k < 3840 := by omega
        rw [wrn k (by omega) (by omega)] at ev
        subst ev
        have pk : pkE J k = e := by have := t4 0 e rfl; rw [Nat.add_zero] at this; rw [ek]; exact this
        have cp3 : ∀ (d' j : Nat) (L : Mm), j + d' = 3 → (∀ c, c ≠ 250 → L c = J c) → (∀ r, r < j → rd L 250 r = rd J 239 (3 * k + r)) → GoA 188 39 [some (.inr (3, 0, 0)), some (.inl (1, (i : Int))), some (.inl (1, (n : Int))), some (.inl (1, (k : Int))), some (.inl (1, (j : Int)))] [] L (rV K) := by
          intro d'
          induction d' with
          | zero =>
            intro j L hj g1 g4
            refine b_r_loadStep_39 (inRn (by omega)) (inRn (by omega)) (inRn (by omega)) (inRn (by omega)) ⟨fun _ => ⟨by omega, fun I1 e1 => ?_⟩, fun z => absurd (by omega) z⟩
            rw [Int.toNat_natCast] at e1
            have q1 : ∀ c, c ≠ 250 → c ≠ 212 → I1 c = J c := fun c h1 h2 => by rw [e1, wt_a _ _ _ _ h2, g1 c h1]
            have at1 : atE I1 = e := by
              have r0 := g4 0 (by omega)
              rw [Nat.add_zero] at r0
              rw [← pk]
              unfold atE pkE
              rw [e1, rd_wt_a _ _ _ _ (by omega), rd_wt_a _ _ _ _ (by omega), rd_wt_a _ _ _ _ (by omega), rd_wt_s _ _ _ (rd_in _ _ _), r0, g4 1 (by omega), g4 2 (by omega), rd_of (g1 240 (by omega))]
            refine c_comes hi (treeR_of (fun c h1 h2 => q1 c (by omega) (by omega)) b6) hgy (by omega) ?_
            intro I2 f1 f2
            rw [at1] at f2
            have c2 := treeR_c f2
            have q2 : ∀ c s', 224 ≤ c → c ≤ 240 → rd I2 c s' = rd J c s' := fun c s' h1 h2 => by rw [rd_of (f1.1 c (by omega) (by omega) (by omega) (by omega) (by omega) (by omega) (by omega) (by omega) (by omega) (by omega)), rd_of (q1 c (by omega) (by omega))]
            refine ⟨by omega, by omega, fun I3 e3 v2 ev2 _ => ?_⟩
            rw [Int.toNat_natCast, q2 _ _ (by omega) (by omega), t3] at e3
            rw [wrn (n + 1) (by omega) (by omega)] at ev2
            subst ev2
            have q3 : ∀ c s', 224 ≤ c → c ≤ 240 → c ≠ 238 → rd I3 c s' = rd J c s' := fun c s' h1 h2 h3 => by rw [e3, rd_wt_a _ _ _ _ h3, q2 c s' h1 h2]
            have x1 : XFrR J I1 i := xFrR_sc (fun c h1 h2 _ _ _ _ => q1 c h2 h1) (fun k' h1 _ _ => by rw [e1, rd_wt_k _ _ _ _ h1, rd_of (g1 212 (by omega))])
            have hadd := add_good (e := e) hgy
            refine ih (n + 1) I3 (setG (setT y (addT e (xT y))) G) _ _ (okO_s (okF_1 (inRn (by omega)) 1)) (okO_s (okF_1 (inRn (by omega)) 1)) (by omega) (xFrR_tr hF (xFrR_tr x1 (xFrR_tr (xFrR_fr hi f1 c2) (by rw [e3]; exact xFrR_wt (by omega) (by omega) (ow_d rfl (by omega) (by omega) (by omega) (by omega) (by omega) (by omega)))))) (cnOK_cg (by rw [e3, wt_a _ _ _ _ (by omega)]) c2) ?_ hUy hky hSy hadd.1 (by have h2 : (lsT (xT (setG (setT y (addT e (xT y))) G))).length ≤ (lsT (xT y)).length + 1 := hadd.2.2; have h3 : xG (setG (setT y (addT e (xT y))) G) = G := rfl; rw [h3]; omega) (by rw [← hld]; show ld d _ = (match xG y with | [] => setS y 3 | e :: G => ld d (setG (setT y (addT e (xT y))) G)); rw [hG])
            refine ixR_ch (x := y) (y := setG (setT y (addT e (xT y))) G) hy hUy hky (q3 _ _ (by omega) (by omega) (by omega)) (q3 _ _ (by omega) (by omega) (by omega)) (q3 _ _ (by omega) (by omega) (by omega)) (fun j _ => q3 _ _ (by omega) (by omega) (by omega)) rfl rfl ⟨by rw [q3 _ _ (by omega) (by omega) (by omega)]; exact b4.1, by rw [q3 _ _ (by omega) (by omega) (by omega)]; exact b4.2⟩ ⟨by rw [q3 _ _ (by omega) (by omega) (by omega)]; exact b5.1, by rw [q3 _ _ (by omega) (by omega) (by omega)]; exact b5.2.1, by rw [q3 _ _ (by omega) (by omega) (by omega)]; exact b5.2.2⟩ (treeR_of (fun c h1 h2 => by rw [e3, wt_a _ _ _ _ (by omega)]) f2) (logR_eq' (fun c s' h1 h2 => q3 c s' (by omega) (by omega) (by omega)) b7) ?_
            show PkR I3 i (xS y) G
            intro _
            refine ⟨tk + 1, fun z => absurd (hSy.symm.trans z) (by decide), by omega, by rw [q3 _ _ (by omega) (by omega) (by omega), t2]; omega, by rw [e3, rd_wt_s _ _ _ ⟨by omega, by omega⟩]; omega, fun j e' hj => ?_⟩
            rw [pkE_of (fun s' _ _ => q3 _ s' (by omega) (by omega) (by omega)) (q3 _ _ (by omega) (by omega) (by omega))]
            have := t4 (j + 1) e' hj
            rw [show 640 * i + (tk + 1) + j = 640 * i + tk + (j + 1) by omega]
            exact this
          | succ d' ihd =>
            intro j L hj g1 g4
            have wv : wr (3 * (k : Int) + (j : Int)) = ((3 * k + j : Nat) : Int) := wrn _ (by omega) (by omega)
            refine b_r_loadStep_39 (inRn (by omega)) (inRn (by omega)) (inRn (by omega)) (inRn (by omega)) ⟨fun z => absurd z (by omega), fun _ => ?_⟩
            rw [wv, Int.toNat_natCast, Int.toNat_natCast]
            refine ⟨by omega, by omega, fun L2 e2 v ev _ => ?_⟩
            rw [wrn (j + 1) (by omega) (by omega)] at ev
            subst ev
            refine ihd (j + 1) L2 (by omega) (fun c hc => by rw [e2, wt_a _ _ _ _ hc, g1 c hc]) (fun r hr => ?_)
            by_cases c : r = j
            · subst c; rw [e2, rd_wt_s _ _ _ (rd_in _ _ _), rd_of (g1 239 (by omega))]
            · rw [e2, rd_wt_k _ _ _ _ c, g4 r (by omega)]
        exact cp3 3 0 J (by omega) (fun _ _ => rfl) (fun r hr => absurd hr (by omega))
  refine callV_fl (as' := [.inr (3, 0, 0), .inl (1, (i : Int))]) rfl ?_
  exact callV_of rfl (b_r_loadStep (inRn (by omega)) (loop 16 0 I x none none okO_n okO_n (by omega) (xFrR_rfl I i) hc hx hU hk hS hg hl rfl))
