/-! THE CLASS: the way to the greatest below; mending upwards -/
def GInv (I J : Mm) (B r d l : Nat) : Prop :=
  (∀ c, c ≠ B + 2 → c ≠ B + 10 → c ≠ B + 11 → J c = I c) ∧ (∀ k, k ≠ 11 → rd J (B + 2) k = rd I (B + 2) k) ∧ (∀ j, j ≤ d → sJ J B j = sJ I B j) ∧
  (∀ j, j < l → rd J (B + 10) j = pthT (nsC I B) (sJ J B) r j ∧ rd J (B + 11) j = sJ J B j) ∧ (∀ j, d < j → j < l → sJ J B j = (tks I B (pthT (nsC I B) (sJ J B) r j)).length)
set_option maxHeartbeats 2000000 in
theorem c_gtgb {B h r d : Nat} {I : Mm} {K : Mm → Prop} (hB : isX B) (hsz : szOK I B) (hh : h ≤ 11) (hd : d < h) (hend : rd I (B + 2) 11 = d) (hp : PthOK (fun m => m < 348) (nsC I B) (sJ I B) d r → True) (hw : wfT (fun m => m < 348) (nsC I B) h r)
    (ha : ∀ j, j ≤ d → rd I (B + 10) j = pthT (nsC I B) (sJ I B) r j ∧ rd I (B + 11) j = sJ I B j) (hs : ∀ j, j ≤ d → sJ I B j ≤ (tks I B (pthT (nsC I B) (sJ I B) r j)).length)
    (hK : ∀ J : Mm, GInv I J B r d (h + 1) → rd J (B + 2) 11 = h → K J) : CallV 72 [.inr (2, B, 2)] I K := by
  have pw : ∀ j, j ≤ d → wfT (fun m => m < 348) (nsC I B) (h - j) (pthT (nsC I B) (sJ I B) r j) := by
    intro j
    induction j with
    | zero => intro _; exact hw
    | succ j ih =>
      intro hj
      have w := ih (by omega)
      obtain ⟨g, hg⟩ : ∃ g, h - j = g + 1 := ⟨h - j - 1, by omega⟩
      rw [hg] at w
      obtain ⟨c, hc, c0, wc, ec⟩ := kid_of w (hs j (by omega))
      rw [show h - (j + 1) = g by omega]
      show wfT _ _ g (((nsC I B (pthT (nsC I B) (sJ I B) r j)).2[sJ I B j]?.getD 0).toNat)
      rw [ec]; exact wc
  have loop : ∀ (g l n : Nat) (J : Mm), l + g = h → d < l → GInv I J B r d l → n = pthT (nsC I B) (sJ J B) r l → wfT (fun m => m < 348) (nsC I B) g n → GoA 72 35 [some (.inr (2, B, 2)), some (.inl (1, (n : Int))), some (.inl (1, (l : Int)))] [] J (rV K) := by
    intro g
    induction g using Nat.strongRecOn with
    | ind g ih =>
      intro l n J hl hdl hG hn wn
      obtain ⟨g1, g2, g3, g4, g5⟩ := hG
      have nv : n < 348 := wfT_V wn n (fpT_self _ _ _)
      have szn := hsz n nv
      obtain ⟨sz, hz⟩ : ∃ sz : Nat, rd I (B + 8) n = sz := ⟨(rd I (B + 8) n).toNat, by omega⟩
      refine b_gtgb_35 hB (inRn (by omega)) (inRn (by omega)) ⟨fun z => absurd z (by omega), fun _ => ⟨by omega, ?_⟩⟩
      intro I1 eI1
      refine ⟨by omega, by omega, ?_⟩
      rw [Int.toNat_natCast] at eI1 ⊢
      have r18 : rd I1 (B + 8) n = sz := by rw [eI1, rd_wt_a _ _ _ _ (by omega), rd_of (g1 _ (by omega) (by omega) (by omega)), hz]
      rw [Int.toNat_natCast, r18]
      intro I2 eI2 I3 eI3
      have fr : ∀ c, c ≠ B + 2 → c ≠ B + 10 → c ≠ B + 11 → I3 c = I c := fun c k2 k10 k11 => by rw [eI3, wt_a _ _ _ _ k2, eI2, wt_a _ _ _ _ k11, eI1, wt_a _ _ _ _ k10, g1 c k2 k10 k11]
      have e11 : ∀ j, rd I3 (B + 11) j = if j = l then (sz : Int) else rd J (B + 11) j := by
        intro j
        rw [eI3, rd_wt_a _ _ _ _ (by omega), eI2, rd_wt, if_pos rfl, wrn sz rfl (by omega)]
        by_cases c : j = l
        · rw [if_pos c, if_pos c]
        · rw [if_neg c, if_neg c, eI1, rd_wt_a _ _ _ _ (by omega)]
      have e10 : ∀ j, rd I3 (B + 10) j = if j = l then (n : Int) else rd J (B + 10) j := by
        intro j
        rw [eI3, rd_wt_a _ _ _ _ (by omega), eI2, rd_wt_a _ _ _ _ (by omega), eI1, rd_wt, if_pos rfl, wrn n rfl (by omega)]
      have es : ∀ j, j < l → sJ I3 B j = sJ J B j := by
        intro j hj
        unfold sJ
        rw [e11, if_neg (by omega)]
      have esl : sJ I3 B l = sz := by
        unfold sJ
        rw [e11, if_pos rfl, Int.toNat_natCast]
      have ep : ∀ j, j ≤ l → pthT (nsC I B) (sJ I3 B) r j = pthT (nsC I B) (sJ J B) r j := fun j hj => pthT_congr j (fun i hi => es i (by omega))
      have G3 : GInv I I3 B r d (l + 1) := by
        refine ⟨fr, fun k hk => by rw [eI3, rd_wt_k _ _ _ _ hk, eI2, rd_wt_a _ _ _ _ (by omega), eI1, rd_wt_a _ _ _ _ (by omega), g2 k hk], fun j hj => by rw [es j (by omega), g3 j hj], fun j hj => ?_, fun j h1 h2 => ?_⟩
        · rw [ep j (by omega), e10]
          by_cases c : j = l
          · subst c
            rw [if_pos rfl, ← hn]
            refine ⟨rfl, ?_⟩
            rw [esl, e11, if_pos rfl]
          · rw [if_neg c]
            refine ⟨(g4 j (by omega)).1, ?_⟩
            rw [es j (by omega), e11, if_neg c]
            exact (g4 j (by omega)).2
        · rw [ep j (by omega)]
          by_cases c : j = l
          · subst c
            rw [esl, ← hn, tks_len, hz, Int.toNat_natCast]
          · rw [es j (by omega)]; exact g5 j h1 (by omega)
      have fr7 : ∀ k, rd I3 (B + 7) k = rd I (B + 7) k := fun k => rd_of (fr _ (by omega) (by omega) (by omega)) k
      have r38 : rd I3 (B + 8) n = sz := by rw [rd_of (fr _ (by omega) (by omega) (by omega)), hz]
      obtain ⟨c0, hc0, hc1, hc2⟩ := kids0 wn
      have r0 := (tcs_get hc0).1
      rw [wrn (6 * n) (by omega) (by omega), Int.toNat_natCast, fr7, show 6 * n = 6 * n + 0 by omega, r0]
      refine ⟨by omega, fun z3 => ?_, fun z3 => ⟨by omega, ?_⟩⟩
      · have g0 : g = 0 := by
          by_cases c : g = 0
          · exact c
          · have := hc2 c; omega
        have lh : l = h := by omega
        subst lh
        exact hK I3 G3 (by rw [eI3, rd_wt_s _ _ _ (inRn (by omega))])
      · have g0 : g ≠ 0 := fun c => z3 (hc1 c)
        obtain ⟨g', rfl⟩ : ∃ g', g = g' + 1 := ⟨g - 1, by omega⟩
        have slen : (nsC I B n).1.length = sz := by show (tks I B n).length = sz; rw [tks_len, hz, Int.toNat_natCast]
        obtain ⟨c, hc, cp, wc, ec⟩ := kid_of (k := sz) wn (by omega)
        have rk := (tcs_get (I := I) (B := B) (n := n) (k := sz) hc).1
        rw [r38, wrn (6 * n + sz) (by omega) (by omega), Int.toNat_natCast, fr7, rk]
        obtain ⟨c', hcc⟩ : ∃ c' : Nat, c = (c' : Int) := ⟨c.toNat, by omega⟩
        subst hcc
        rw [Int.toNat_natCast] at wc
        refine ⟨by omega, fun v1 e1 _ v2 e2 _ => ?_⟩
        rw [wrn (l + 1) (by omega) (by omega)] at e2
        rw [e1, e2]
        refine ih g' (by omega) (l + 1) c' I3 (by omega) (by omega) G3 ?_ wc
        show c' = ((nsC I B (pthT (nsC I B) (sJ I3 B) r l)).2[sJ I3 B l]?.getD 0).toNat
        rw [ep l (Nat.le_refl _), ← hn, esl, hc]; rfl
  refine callV_of rfl (b_gtgb hB ?_)
  rw [hend, Int.toNat_natCast, (ha d (Nat.le_refl _)).1, (ha d (Nat.le_refl _)).2]
  have w := pw d (Nat.le_refl _)
  obtain ⟨g, hg⟩ : ∃ g, h - d = g + 1 := ⟨h - d - 1, by omega⟩
  rw [hg] at w
  have nv : pthT (nsC I B) (sJ I B) r d < 348 := wfT_V w _ (fpT_self _ _ _)
  have hsd := hs d (Nat.le_refl _)
  have szd := hsz _ nv
  rw [tks_len] at hsd
  obtain ⟨c, hc, cp, wc, ec⟩ := kid_of w (hs d (Nat.le_refl _))
  have rk := (tcs_get (I := I) (B := B) hc).1
  refine ⟨by omega, by omega, ?_⟩
  rw [wrn (6 * pthT (nsC I B) (sJ I B) r d + sJ I B d) (by omega) (by omega), Int.toNat_natCast, rk]
  obtain ⟨c', hcc⟩ : ∃ c' : Nat, c = (c' : Int) := ⟨c.toNat, by omega⟩
  subst hcc
  rw [Int.toNat_natCast] at wc ec
  refine ⟨by omega, fun v1 e1 _ v2 e2 _ => ?_⟩
  rw [wrn (d + 1) (by omega) (by omega)] at e2
  rw [e1, e2]
  refine loop g (d + 1) c' I (by omega) (by omega) ⟨fun _ _ _ _ => rfl, fun _ _ => rfl, fun _ _ => rfl, fun j hj => ha j (by omega), fun j h1 h2 => absurd h2 (by omega)⟩ ec.symm wc
theorem nd_len : ∀ {l m : List Nat}, l.Nodup → (∀ x ∈ l, x ∈ m) → l.length ≤ m.length
  | [], m, _, _ => Nat.zero_le _
  | a :: l, m, hn, hs => by
    have ha := hs a List.mem_cons_self
    have hc := List.nodup_cons.mp hn
    have := nd_len (l := l) (m := m.erase a) hc.2 (fun x hx => by
      have hne : x ≠ a := fun z => hc.1 (z ▸ hx)
      exact (List.mem_erase_of_ne hne).mpr (hs x (List.mem_cons_of_mem _ hx)))
    have hl := (List.perm_cons_erase ha).length_eq
    simp only [List.length_cons] at hl ⊢
    omega
theorem kidI {I : Mm} {B n k : Nat} (h : k ≤ (rd I (B + 8) n).toNat) : (nsC I B n).2[k]? = some (rd I (B + 7) (6 * n + k)) := by
  show (tcs I B n)[k]? = _
  exact seg_get _ _ (by omega)
set_option maxHeartbeats 8000000 in
theorem c_mend {B d r : Nat} {ns0 : Nat → List Int × List Int} {s : Nat → Nat} {I : Mm} {K : Mm → Prop} (hB : isX B) (hp : PthOK (fun m => m < 348) ns0 s d r) (h4 : ∀ m ∈ fpT ns0 d r, (ns0 m).1.length ≤ 4) (h2 : ∀ m ∈ fpT ns0 d r, m ≠ r → 2 ≤ (ns0 m).1.length) (h1 : 0 < d → 1 ≤ (ns0 r).1.length) (hd : d ≤ 11) (hsz : szOK I B) (hI : InvD (fun m => m < 348) ns0 (nsC I B) s d r d []) (hroot : rd I (B + 2) 8 = r) (hend : rd I (B + 2) 11 = d)
    (hpn : ∀ j, j ≤ d → rd I (B + 10) j = pthT ns0 s r j) (hps : ∀ j, j < d → rd I (B + 11) j = s j) (hsp : 0 ≤ rd I (B + 2) 7) (hperm : (fpI ns0 d r ++ spn I B).Perm (ran 348))
    (hK : ∀ (J : Mm) (h' r' : Nat), (∀ c, c ≠ B + 2 → c ≠ B + 6 → c ≠ B + 7 → c ≠ B + 8 → c ≠ B + 9 → J c = I c) → (∀ k, k ≠ 7 → k ≠ 8 → rd J (B + 2) k = rd I (B + 2) k) → szOK J B → rd J (B + 2) 8 = r' → 0 ≤ rd J (B + 2) 7 → wfT (fun m => m < 348) (nsC J B) h' r' → (⟨h', mkT (nsC J B) h' r'⟩ : TS Int) = shrT d (delP s d 0 (mkT ns0 d r)) → (fpI (nsC J B) h' r' ++ spn J B).Perm (ran 348) → K J) : CallV 77 [.inr (2, B, 2)] I K := by
  have fpv : ∀ m ∈ fpT ns0 d r, m < 348 := fun m hm => wfT_V hp.1 m hm
  have hpath : ∀ j, j ≤ d → pthT ns0 s r j ∈ fpT ns0 d r := fun j hj => fp_up hp j hj _ (fpT_self _ _ _)
  have hpr : ∀ j, 0 < j → j ≤ d → pthT ns0 s r j ≠ r := fun j h1 h2 => Ne.symm (pth_off hp h1 h2).1
  have fin : ∀ (i : Nat) (J : Mm) (go : List Nat), i ≤ d → InvD (fun m => m < 348) ns0 (nsC J B) s d r i go → (i = 0 ∨ 2 ≤ (nsC J B (pthT ns0 s r i)).1.length) → szOK J B → rd J (B + 2) 8 = r → (∀ c, c ≠ B + 2 → c ≠ B + 6 → c ≠ B + 7 → c ≠ B + 8 → c ≠ B + 9 → J c = I c) → (∀ k, k ≠ 7 → rd J (B + 2) k = rd I (B + 2) k) → 0 ≤ rd J (B + 2) 7 → (fpI ns0 d r ++ spn I B).Perm (ran 348) → (spn J B).Perm (spn I B ++ go.map (fun n : Nat => (n : Int))) → (0 ≤ (rd J (B + 2) 8) ∧ (rd J (B + 2) 8) < 348) ∧ ((rd J (B + 8) (rd J (B + 2) 8).toNat = 0 → (0 ≤ (wr ((rd J (B + 2) 8) * 6)) ∧ (wr ((rd J (B + 2) 8) * 6)) < 2088) ∧ ((rd J (B + 7) (wr ((rd J (B + 2) 8) * 6)).toNat = (-1) → (rV K) none J) ∧ (¬ rd J (B + 7) (wr ((rd J (B + 2) 8) * 6)).toNat = (-1) → (0 ≤ (rd J (B + 2) 7) ∧ (rd J (B + 2) 7) < 348) ∧ (∀ I1, I1 = wt J (B + 9) (rd J (B + 2) 7).toNat (rd J (B + 2) 8) → ∀ I2, I2 = wt I1 (B + 2) 7 ((rd I1 (B + 2) 7) + 1) → (0 ≤ (wr ((rd I2 (B + 2) 8) * 6)) ∧ (wr ((rd I2 (B + 2) 8) * 6)) < 2088) ∧ (∀ I3, I3 = wt I2 (B + 2) 8 (rd I2 (B + 7) (wr ((rd I2 (B + 2) 8) * 6)).toNat) → (rV K) none I3))))) ∧ (¬ rd J (B + 8) (rd J (B + 2) 8).toNat = 0 → (rV K) none J)) := by
    intro i
    induction i with
    | succ i ih =>
      intro J go hi hD hor a1 a2 a3 a4 a5 a6 a7
      obtain ⟨g, hg⟩ : ∃ g, d = i + 1 + g := ⟨d - (i + 1), by omega⟩
      have hl : 2 ≤ (nsC J B (pthT ns0 s r (i + 1))).1.length := by
        rcases hor with z | z
        · omega
        · exact z
      have hk := invD_keep hp hg hD hl
      have hm := (invD_mid hp hg hD).1
      refine ih J go (by omega) hk ?_ a1 a2 a3 a4 a5 a6 a7
      by_cases c : i = 0
      · exact Or.inl c
      · right
        rw [hm]
        exact h2 _ (hpath i (by omega)) (hpr i (by omega) (by omega))
    | zero =>
      intro J go hi hD hor a1 a2 a3 a4 a5 a6 a7
      obtain ⟨b1, b2, b3, b4⟩ := hD
      rw [Nat.sub_zero] at b1 b2 b3 b4
      have b2' : mkT (nsC J B) d r = delP s d 0 (mkT ns0 d r) := b2
      have b3' : wfT (fun m => m < 348) (nsC J B) d r := b3
      have b4' : (fpT (nsC J B) d r ++ go).Perm (fpT ns0 d r) := b4
      have rv : r < 348 := wfT_V b3' r (fpT_self _ _ _)
      have pm : (fpI (nsC J B) d r ++ spn J B).Perm (ran 348) := by
        refine List.Perm.trans ?_ a6
        have q1 := b4'.map (fun n : Nat => (n : Int))
        rw [List.map_append] at q1
        refine List.Perm.trans ?_ (q1.append_right _)
        rw [List.append_assoc]
        refine List.Perm.append_left _ ?_
        exact a7.trans List.perm_append_comm
      have szr := a1 r rv
      have lenr : (nsC J B r).1.length = (rd J (B + 8) r).toNat := tks_len _ _ _
      rw [a2, Int.toNat_natCast]
      refine ⟨by omega, fun z0 => ?_, fun z0 => ?_⟩
      · obtain ⟨c0, hc0, hc1, hc2⟩ := kids0 b3'
        have r0 := (tcs_get hc0).1
        rw [wrn (6 * r) (by omega) (by omega), Int.toNat_natCast, show rd J (B + 7) (6 * r) = c0 from r0]
        refine ⟨by omega, fun z3 => ?_, fun z3 => ?_⟩
        · have d0 : d = 0 := by
            by_cases c : d = 0
            · exact c
            · have := hc2 c; omega
          refine hK J d r a3 (fun k k7 _ => a4 k k7) a1 a2 a5 b3' ?_ pm
          rw [b2']
          subst d0
          rfl
        · have d0 : d ≠ 0 := fun c => z3 (hc1 c)
          obtain ⟨g, rfl⟩ : ∃ g, d = g + 1 := ⟨d - 1, by omega⟩
          have c0p := hc2 d0
          have c7 : rd J (B + 2) 7 < 348 := by
            have := pm.length_eq
            rw [List.length_append, ran_len, spn_len] at this
            have h1 : 1 ≤ (fpI (nsC J B) (g + 1) r).length := by
              unfold fpI
              rw [List.length_map]
              exact List.length_pos_of_mem (fpT_self _ _ _)
            omega
          obtain ⟨n7, hn7⟩ : ∃ n7 : Nat, rd J (B + 2) 7 = n7 := ⟨(rd J (B + 2) 7).toNat, by omega⟩
          rw [hn7] at c7 ⊢
          refine ⟨by omega, ?_⟩
          rw [Int.toNat_natCast]
          intro I1 eI1
          have r17 : rd I1 (B + 2) 7 = n7 := by rw [eI1, rd_wt_a _ _ _ _ (by omega), hn7]
          rw [r17]
          intro I2 eI2
          have r28 : rd I2 (B + 2) 8 = r := by rw [eI2, rd_wt_k _ _ _ _ (by omega), eI1, rd_wt_a _ _ _ _ (by omega), a2]
          rw [r28, wrn (6 * r) (by omega) (by omega), Int.toNat_natCast]
          refine ⟨by omega, ?_⟩
          have r27 : rd I2 (B + 7) (6 * r) = c0 := by rw [eI2, rd_wt_a _ _ _ _ (by omega), eI1, rd_wt_a _ _ _ _ (by omega)]; exact r0
          rw [r27]
          intro I3 eI3
          have fr : ∀ c, c ≠ B + 2 → c ≠ B + 9 → I3 c = J c := fun c k2 k9 => by rw [eI3, wt_a _ _ _ _ k2, eI2, wt_a _ _ _ _ k2, eI1, wt_a _ _ _ _ k9]
          have n3 : nsC I3 B = nsC J B := nsC_cg (fr _ (by omega) (by omega)) (fr _ (by omega) (by omega)) (fr _ (by omega) (by omega))
          obtain ⟨c, hcc⟩ : ∃ c : Nat, c0 = (c : Int) := ⟨c0.toNat, by omega⟩
          subst hcc
          have r37 : rd I3 (B + 2) 7 = (n7 : Int) + 1 := by rw [eI3, rd_wt_k _ _ _ _ (by omega), eI2, rd_wt_s _ _ _ ⟨by omega, by omega⟩]
          have cm : (c : Int) ∈ (nsC J B r).2 := List.mem_of_getElem? hc0
          have wc := (b3'.2.2 _ cm).2
          rw [Int.toNat_natCast] at wc
          have cv : c < 348 := wfT_V wc c (fpT_self _ _ _)
          have l0 : (nsC J B r).1.length = 0 := by rw [lenr, z0]; rfl
          have kid1 : (nsC J B r).2 = [(c : Int)] := by
            have hl2 : (nsC J B r).2.length = 1 := by rw [b3'.2.1, l0]
            obtain ⟨w, hw⟩ := List.length_eq_one_iff.mp hl2
            rw [hw] at hc0 ⊢
            simp at hc0
            rw [hc0]
          refine hK I3 g c (fun x k2 k6 k7 k8 k9 => by rw [fr x k2 k9, a3 x k2 k6 k7 k8 k9]) (fun k k7 k8 => by rw [eI3, rd_wt_k _ _ _ _ k8, eI2, rd_wt_k _ _ _ _ k7, eI1, rd_wt_a _ _ _ _ (by omega), a4 k k7]) (szOK_cg (fr _ (by omega) (by omega)) a1) (by rw [eI3, rd_wt_s _ _ _ (inRn (by omega))]) (by rw [r37]; omega) (by rw [n3]; exact wc) ?_ ?_
          · rw [n3, ← b2']
            refine (shrT_0 (t := mkT (nsC J B) (g + 1) r) (u := mkT (nsC J B) g c) l0 ?_).symm
            have := mkT_k (g := g) hc0
            rw [Int.toNat_natCast] at this
            exact this
          · rw [n3]
            have sp3 : spn I3 B = spn J B ++ [(r : Int)] := by
              unfold spn
              rw [r37, show ((n7 : Int) + 1).toNat = n7 + 1 by omega, seg_succ, hn7, Int.toNat_natCast]
              have q9 : ∀ k, rd I3 (B + 9) k = if k = n7 then (r : Int) else rd J (B + 9) k := by
                intro k
                rw [eI3, rd_wt_a _ _ _ _ (by omega), eI2, rd_wt_a _ _ _ _ (by omega), eI1, rd_wt, if_pos rfl, wrn r rfl (by omega)]
              rw [q9, if_pos (by omega)]
              congr 1
              exact seg_congr (fun k hk => by rw [q9, if_neg (by omega)])
            rw [sp3]
            refine List.Perm.trans ?_ pm
            have fe : fpI (nsC J B) (g + 1) r = (r : Int) :: fpI (nsC J B) g c := by
              unfold fpI
              show ((r :: (nsC J B r).2.flatMap (fun c => fpT (nsC J B) g c.toNat)).map _) = _
              rw [kid1]
              simp
            rw [fe, ← List.append_assoc]
            exact (List.perm_append_singleton (r : Int) _)
      · have lp : ¬ (delP s d 0 (mkT ns0 d r) |> kyT d).length = 0 := by
          show ¬ (kyT d (delP s d 0 (mkT ns0 d r))).length = 0
          rw [← b2', kyT_mk, lenr]
          omega
        refine hK J d r a3 (fun k k7 _ => a4 k k7) a1 a2 a5 b3' ?_ pm
        rw [b2']
        cases d with
        | zero => rfl
        | succ d => exact (shrT_1 lp).symm
  have loop : ∀ (lv : Nat) (J : Mm) (go : List Nat) (m2 m3 m4 : Option AV), okO m2 → okO m3 → okO m4 → lv ≤ d → InvD (fun m => m < 348) ns0 (nsC J B) s d r lv go → szOK J B → rd J (B + 2) 8 = r → (∀ c, c ≠ B + 2 → c ≠ B + 6 → c ≠ B + 7 → c ≠ B + 8 → c ≠ B + 9 → J c = I c) → (∀ k, k ≠ 7 → rd J (B + 2) k = rd I (B + 2) k) → 0 ≤ rd J (B + 2) 7 → (spn J B).Perm (spn I B ++ go.map (fun n : Nat => (n : Int))) → GoA 77 5 [some (.inr (2, B, 2)), some (.inl (1, (lv : Int))), m2, m3, m4] [] J (rV K) := by
    intro lv
    induction lv using Nat.strongRecOn with
    | ind lv ih =>
      intro J go m2 m3 m4 k2 k3 k4 hi hD a1 a2 a3 a4 a5 a7
      refine b_mend_5 hB (inRn (by omega)) k2 k3 k4 ⟨fun z => ?_, fun z => ⟨by omega, ?_⟩⟩
      · exact fin lv J go hi hD (Or.inl (by omega)) a1 a2 a3 a4 a5 hperm a7
      · obtain ⟨i, rfl⟩ : ∃ i, lv = i + 1 := ⟨lv - 1, by omega⟩
        have e10 : ∀ j, j ≤ d → rd J (B + 10) j = pthT ns0 s r j := fun j hj => by rw [rd_of (a3 _ (by omega) (by omega) (by omega) (by omega) (by omega)) j, hpn j hj]
        have e11 : ∀ j, j < d → rd J (B + 11) j = s j := fun j hj => by rw [rd_of (a3 _ (by omega) (by omega) (by omega) (by omega) (by omega)) j, hps j hj]
        rw [Int.toNat_natCast, e10 _ hi, Int.toNat_natCast]
        obtain ⟨n, hn⟩ : ∃ n, n = pthT ns0 s r (i + 1) := ⟨_, rfl⟩
        obtain ⟨q, hq⟩ : ∃ q, q = pthT ns0 s r i := ⟨_, rfl⟩
        rw [← hn]
        have nin : n ∈ fpT ns0 d r := by rw [hn]; exact hpath _ hi
        have qin : q ∈ fpT ns0 d r := by rw [hq]; exact hpath _ (by omega)
        have nv := fpv n nin
        have qv := fpv q qin
        obtain ⟨g, hg⟩ : ∃ g, d = i + 1 + g := ⟨d - (i + 1), by omega⟩
        obtain ⟨o1, o2, o3, o4⟩ := invD_mid hp hg hD
        rw [← hq] at o1 o2 o3 o4
        obtain ⟨kc, kc0, hkc, hke, hkm⟩ := pth_kid hp (i := i) (by omega)
        rw [← hq] at hkc hkm
        rw [← hn] at hke
        have kcn : kc = (n : Int) := by omega
        rw [kcn] at hkc hkm
        refine ⟨by omega, fun z2 => ?_, fun z2 => ?_⟩
        · refine fin (i + 1) J go hi hD (Or.inr ?_) a1 a2 a3 a4 a5 hperm a7
          rw [← hn]
          show 2 ≤ (tks J B n).length
          rw [tks_len]; omega
        · have szq := a1 q qv
          have szn := a1 n nv
          obtain ⟨sq, hsq⟩ : ∃ sq : Nat, rd J (B + 8) q = sq := ⟨(rd J (B + 8) q).toNat, by omega⟩
          obtain ⟨sn, hsn⟩ : ∃ sn : Nat, rd J (B + 8) n = sn := ⟨(rd J (B + 8) n).toNat, by omega⟩
          have lq : (ns0 q).1.length = sq := by
            rw [← o1]
            show (tks J B q).length = sq
            rw [tks_len, hsq, Int.toNat_natCast]
          have sq1 : 1 ≤ sq := by
            rw [← lq]
            by_cases c : q = r
            · rw [c]; exact h1 (by omega)
            · have := h2 q qin c; omega
          have sq4 : sq ≤ 4 := by rw [← lq]; exact h4 q qin
          have sle : s i ≤ sq := by
            have := hp.2.2 i (by omega)
            rw [← hq, lq] at this
            exact this
          have wq : wfT (fun m => m < 348) (nsC J B) (g + 1) q := o3
          have ndq : (fpT (nsC J B) (g + 1) q).Nodup := by
            have wn := (pth_wf hp i (by omega)).2
            rw [show d - i = g + 1 by omega, ← hq] at wn
            have := o4.nodup_iff.mpr wn
            exact (List.nodup_append.mp this).1
          have hkJ : (nsC J B q).2[s i]? = some (n : Int) := by rw [o1]; exact hkc
          have wr0 : wr ((((i + 1 : Nat)) : Int) - 1) = (i : Int) := by rw [wrx (by omega) (by omega)]; omega
          have wr1 : wr ((((i + 1 : Nat)) : Int) + (-1)) = (i : Int) := by rw [wrx (by omega) (by omega)]; omega
          rw [wr0, wr1, Int.toNat_natCast, e10 i (by omega), e11 i (by omega), ← hq]
          refine ⟨by omega, ?_⟩
          intro v2 ev2 iv2
          refine ⟨by omega, ?_⟩
          intro v3 ev3 iv3
          subst ev2
          subst ev3
          -- what a neighbour is
          have nb : ∀ j, j ≤ sq → j ≠ s i → ∃ l : Nat, rd J (B + 7) (6 * q + j) = l ∧ l < 348 ∧ (nsC J B q).2[j]? = some (l : Int) ∧ l ≠ q ∧ l ≠ n ∧ 2 ≤ rd J (B + 8) l ∧ rd J (B + 8) l ≤ 4 ∧ l ∈ fpT (nsC J B) (g + 1) q := by
            intro j hj hne
            have hkj := kidI (I := J) (B := B) (n := q) (k := j) (by rw [hsq]; omega)
            have hm := List.mem_of_getElem? hkj
            have w := wq.2.2 _ hm
            obtain ⟨l, hl⟩ : ∃ l : Nat, rd J (B + 7) (6 * q + j) = l := ⟨(rd J (B + 7) (6 * q + j)).toNat, by omega⟩
            rw [hl] at hkj hm w
            rw [Int.toNat_natCast] at w
            have lv : l < 348 := wfT_V w.2 l (fpT_self _ _ _)
            have lin : l ∈ fpT (nsC J B) (g + 1) q := fpT_kid hm (by rw [Int.toNat_natCast]; exact fpT_self _ _ _)
            have lq' : l ≠ q := fun c => (fp_nd_kid ndq hm).2 (by rw [Int.toNat_natCast]; exact c ▸ fpT_self _ _ _)
            have ln : l ≠ n := by
              intro c
              have := nd_flat (List.nodup_cons.mp ndq).2 hkj hkJ hne l (by rw [Int.toNat_natCast]; exact fpT_self _ _ _)
              exact this (by rw [Int.toNat_natCast]; exact c ▸ fpT_self _ _ _)
            have hk0 : (ns0 q).2[j]? = some (l : Int) := by rw [← o1]; exact hkj
            have l0 : l ∈ fpT ns0 d r := by
              have u := fp_up hp i (by omega)
              rw [show d - i = g + 1 by omega, ← hq] at u
              exact u l (fpT_kid (List.mem_of_getElem? hk0) (by rw [Int.toNat_natCast]; exact fpT_self _ _ _))
            have eql : nsC J B l = ns0 l := by
              refine hD.1 l lv (fun z => ?_)
              rw [show d - (i + 1) = g by omega, ← hn] at z
              have wn := (pth_wf hp i (by omega)).2
              rw [show d - i = g + 1 by omega, ← hq] at wn
              have := nd_flat (List.nodup_cons.mp wn).2 hk0 hkc hne l (by rw [Int.toNat_natCast]; exact fpT_self _ _ _)
              rw [Int.toNat_natCast] at this
              exact this z
            have lr : l ≠ r := by
              intro c
              have hm0 := List.mem_of_getElem? hk0
              by_cases ci : i = 0
              · subst ci
                have : q = r := hq
                exact lq' (c.trans this.symm)
              · have wi := pth_in hp i 0 (by omega)
                have hoff := (pth_off hp (show 0 < i by omega) (by omega)).1
                have wn0 := hp.2.1
                obtain ⟨d', rfl⟩ : ∃ d', d = d' + 1 := ⟨d - 1, by omega⟩
                obtain ⟨kc', kc0', hkc', hke', hkm'⟩ := pth_kid hp (i := 0) (by omega)
                have lin2 : l ∈ fpT ns0 (d' + 1 - 1) (pthT ns0 s r 1) := by
                  have pi := pth_in hp (i - 1) 1 (by omega)
                  rw [show 1 + (i - 1) = i by omega, ← hq] at pi
                  have u2 : ∀ j, 1 ≤ j → j ≤ d' + 1 → ∀ m ∈ fpT ns0 (d' + 1 - j) (pthT ns0 s r j), m ∈ fpT ns0 (d' + 1 - 1) (pthT ns0 s r 1) := by
                    intro j
                    induction j with
                    | zero => intro z; omega
                    | succ j ihj =>
                      intro _ hj m hm
                      by_cases cj : j = 0
                      · subst cj; exact hm
                      · obtain ⟨kq, kq0, hkq, hkeq, hkmq⟩ := pth_kid hp (i := j) (by omega)
                        refine ihj (by omega) (by omega) m ?_
                        rw [show d' + 1 - j = (d' + 1 - (j + 1)) + 1 by omega]
                        rw [hkeq] at hm
                        exact fpT_kid hkmq hm
                  refine u2 i (by omega) (by omega) l ?_
                  rw [show d' + 1 - i = g + 1 by omega, ← hq]
                  exact fpT_kid hm0 (by rw [Int.toNat_natCast]; exact fpT_self _ _ _)
                have := (fp_nd_kid wn0 hkm').2
                rw [hke'] at lin2
                exact this (c ▸ lin2)
            have two := h2 l l0 lr
            have four := h4 l l0
            rw [← eql] at two four
            have two' : 2 ≤ (tks J B l).length := two
            have four' : (tks J B l).length ≤ 4 := four
            rw [tks_len] at two' four'
            have lb := a1 l lv
            exact ⟨l, hl, lv, hkj, lq', ln, by omega, by omega, lin⟩
          have nq : n ≠ q := fun c => (fp_nd_kid ndq (List.mem_of_getElem? hkJ)).2 (by rw [Int.toNat_natCast]; exact c ▸ fpT_self _ _ _)
          have nfp : n ∈ fpT (nsC J B) (g + 1) q := fpT_kid (List.mem_of_getElem? hkJ) (by rw [Int.toNat_natCast]; exact fpT_self _ _ _)
          have qfp : q ∈ fpT (nsC J B) (g + 1) q := fpT_self _ _ _
          have ln : ∀ (j l : Nat), (nsC J B q).2[j]? = some (l : Int) → lnT g (mkT (nsC J B) (g + 1) q).2 j = (rd J (B + 8) l).toNat := by
            intro j l h
            rw [lnT_of (mkT_k h), kyT_mk, Int.toNat_natCast]
            exact tks_len _ _ _
          have ln2 : ¬ 2 ≤ lnT g (mkT (nsC J B) (g + 1) q).2 (s i) := by rw [ln _ n hkJ]; omega
          have klen : (mkT (nsC J B) (g + 1) q).1.length = sq := by
            show (tks J B q).length = sq
            rw [tks_len, hsq, Int.toNat_natCast]
          have next : ∀ (J' : Mm) (go2 : List Nat) (w4 : Option AV), okO w4 → mkT (nsC J' B) (g + 1) q = mendT g (s i) (mkT (nsC J B) (g + 1) q) → wfT (fun m => m < 348) (nsC J' B) (g + 1) q → (fpT (nsC J' B) (g + 1) q ++ go2).Perm (fpT (nsC J B) (g + 1) q) → (∀ m, m < 348 → m ∉ fpT (nsC J B) (g + 1) q → nsC J' B m = nsC J B m) → szOK J' B → rd J' (B + 2) 8 = r → (∀ c, c ≠ B + 2 → c ≠ B + 6 → c ≠ B + 7 → c ≠ B + 8 → c ≠ B + 9 → J' c = J c) → (∀ k, k ≠ 7 → rd J' (B + 2) k = rd J (B + 2) k) → 0 ≤ rd J' (B + 2) 7 → (spn J' B).Perm (spn J B ++ go2.map (fun n : Nat => (n : Int))) → ∀ v1 : Int, v1 = (i : Int) → inR v1 → GoA 77 5 [some (.inr (2, B, 2)), some (.inl (1, v1)), some (.inl (1, (q : Int))), some (.inl (1, (s i : Int))), w4] [] J' (rV K) := by
            intro J' go2 w4 ow4 x1 x2 x3 x4 x5 x6 x7 x8 x9 x10 v1 ev1 _
            subst ev1
            have hD2 := invD_step (ns2 := nsC J' B) (go2 := go2) hp hg hD (by rw [← hq]; exact x1) (by rw [← hq]; exact x2) (by rw [← hq]; exact x3) (by rw [← hq]; exact x4)
            refine ih i (by omega) J' (go2 ++ go) _ _ _ (okO_s (okF_1 iv2 1)) (okO_s (okF_1 iv3 1)) ow4 (by omega) hD2 x5 x6 (fun c c2 c6 c7 c8 c9 => by rw [x7 c c2 c6 c7 c8 c9, a3 c c2 c6 c7 c8 c9]) (fun k k7 => by rw [x8 k k7, a4 k k7]) x9 ?_
            refine x10.trans ?_
            rw [List.map_append]
            refine (a7.append_right _).trans ?_
            rw [List.append_assoc]
            exact List.Perm.append_left _ List.perm_append_comm
          have doL : 0 < s i → (∀ l : Nat, rd J (B + 7) (6 * q + (s i - 1)) = l → 2 < rd J (B + 8) l) → CallV 78 [.inr (2, B, 2), .inl (1, (q : Int)), .inl (1, (s i : Int))] J (fun I25 => ∀ v1, v1 = (i : Int) → inR v1 → GoA 77 5 [some (.inr (2, B, 2)), some (.inl (1, v1)), some (.inl (1, (q : Int))), some (.inl (1, (s i : Int))), m4] [] I25 (rV K)) := by
            intro k0 hbig
            obtain ⟨l, y1, y2, y3, y4, y5, y6, y7, y8⟩ := nb (s i - 1) (by omega) (by omega)
            have big := hbig l y1
            obtain ⟨ls, hls⟩ : ∃ ls : Nat, rd J (B + 8) l = ls := ⟨(rd J (B + 8) l).toNat, by omega⟩
            have hcn : rd J (B + 7) (6 * q + s i) = n := (tcs_get (I := J) (B := B) hkJ).1
            refine c_tfl hB qv y2 nv (Ne.symm y4) (Ne.symm nq) y5 k0 sle hsq (by omega) y1 hcn hls (by omega) (by omega) hsn (by omega) a1 ?_
            intro J' f1 f2 f3 f4 f5 f6 f7 f8 f9 f10 f11
            have hx : (nsC J B q).1[s i - 1]? = some (rd J (B + 6) (5 * q + (s i - 1))) := tks_get (by rw [hsq]; omega)
            have hr : (nsC J B q).2[s i - 1 + 1]? = some (n : Int) := by rw [show s i - 1 + 1 = s i by omega]; exact hkJ
            have hy : (nsC J B l).1.getLast? = some (rd J (B + 6) (5 * l + (ls - 1))) := by
              rw [List.getLast?_eq_getElem?]
              show (tks J B l)[(tks J B l).length - 1]? = _
              rw [tks_len, hls, Int.toNat_natCast, tks_get (by rw [hls]; omega)]
            have hz : (nsC J B l).2.getLast? = some (rd J (B + 7) (6 * l + ls)) := by
              rw [List.getLast?_eq_getElem?]
              show (tcs J B l)[(tcs J B l).length - 1]? = _
              rw [tcs_len, hls, Int.toNat_natCast]
              exact kidI (by rw [hls]; omega)
            obtain ⟨w1, w2, w3⟩ := st_tfl (V := fun m => m < 348) (ns := nsC J B) (ns2 := nsC J' B) (b := s i - 1) wq ndq hx y3 hr hy hz (by show (tks J' B q, tcs J' B q) = _; rw [f6, f7]; rfl) (by show (tks J' B l, tcs J' B l) = _; rw [f8, f9]; rfl) (by show (tks J' B n, tcs J' B n) = _; rw [f10, f11]; rfl) (fun m hm c1 c2 c3 => nsC_eq f2 hm ⟨c1, c2, c3⟩)
            have r2 : ∀ k, rd J' (B + 2) k = rd J (B + 2) k := fun k => rd_of (f1 _ (by omega) (by omega) (by omega)) k
            refine next J' [] m4 k4 ?_ w2 w3 (fun m hm hm' => nsC_eq f2 hm ⟨fun c => hm' (c ▸ qfp), fun c => hm' (c ▸ y8), fun c => hm' (c ▸ nfp)⟩) ?_ (by rw [r2, a2]) (fun c _ c6 c7 c8 _ => f1 c c6 c7 c8) (fun k _ => r2 k) (by rw [r2]; exact a5) ?_
            · rw [w1, mendT_L ln2 ⟨k0, by rw [ln _ l y3]; omega⟩]
            · intro m hm
              by_cases c1 : m = q
              · subst c1; rw [f3]; omega
              · by_cases c2 : m = l
                · subst c2; rw [f4]; omega
                · by_cases c3 : m = n
                  · subst c3; rw [f5]; omega
                  · rw [(f2 m hm ⟨c1, c2, c3⟩).2.2]; exact a1 m hm
            · rw [List.map_nil, List.append_nil]
              unfold spn
              rw [r2]
              rw [show seg (rd J' (B + 9)) 0 (rd J (B + 2) 7).toNat = seg (rd J (B + 9)) 0 (rd J (B + 2) 7).toNat from seg_congr (fun k _ => rd_of (f1 _ (by omega) (by omega) (by omega)) _)]
          have doR : (0 < s i → ∀ l : Nat, rd J (B + 7) (6 * q + (s i - 1)) = l → rd J (B + 8) l ≤ 2) → s i < sq → (∀ l : Nat, rd J (B + 7) (6 * q + (s i + 1)) = l → 2 < rd J (B + 8) l) → CallV 79 [.inr (2, B, 2), .inl (1, (q : Int)), .inl (1, (s i : Int))] J (fun I25 => ∀ v1, v1 = (i : Int) → inR v1 → GoA 77 5 [some (.inr (2, B, 2)), some (.inl (1, v1)), some (.inl (1, (q : Int))), some (.inl (1, (s i : Int))), m4] [] I25 (rV K)) := by
            intro hsm klt hbig
            obtain ⟨l, y1, y2, y3, y4, y5, y6, y7, y8⟩ := nb (s i + 1) (by omega) (by omega)
            have big := hbig l y1
            obtain ⟨ls, hls⟩ : ∃ ls : Nat, rd J (B + 8) l = ls := ⟨(rd J (B + 8) l).toNat, by omega⟩
            have hcn : rd J (B + 7) (6 * q + s i) = n := (tcs_get (I := J) (B := B) hkJ).1
            refine c_tfr hB qv nv y2 (Ne.symm nq) (Ne.symm y4) (Ne.symm y5) klt hsq (by omega) hcn y1 hls (by omega) (by omega) hsn (by omega) a1 ?_
            intro J' f1 f2 f3 f4 f5 f6 f7 f8 f9 f10 f11
            have hx : (nsC J B q).1[s i]? = some (rd J (B + 6) (5 * q + s i)) := tks_get (by rw [hsq]; omega)
            have hy : (nsC J B l).1.head? = some (rd J (B + 6) (5 * l)) := by
              rw [List.head?_eq_getElem?]
              show (tks J B l)[0]? = _
              rw [tks_get (by rw [hls]; omega)]
              rfl
            have hz : (nsC J B l).2.head? = some (rd J (B + 7) (6 * l)) := by
              rw [List.head?_eq_getElem?]
              exact kidI (by omega)
            obtain ⟨w1, w2, w3⟩ := st_tfr (V := fun m => m < 348) (ns := nsC J B) (ns2 := nsC J' B) (b := s i) wq ndq hx hkJ y3 hy hz (by show (tks J' B q, tcs J' B q) = _; rw [f6, f7]; rfl) (by show (tks J' B n, tcs J' B n) = _; rw [f10, f11]; rfl) (by show (tks J' B l, tcs J' B l) = _; rw [f8, f9]; rfl) (fun m hm c1 c2 c3 => nsC_eq f2 hm ⟨c1, c2, c3⟩)
            have r2 : ∀ k, rd J' (B + 2) k = rd J (B + 2) k := fun k => rd_of (f1 _ (by omega) (by omega) (by omega)) k
            refine next J' [] m4 k4 ?_ w2 w3 (fun m hm hm' => nsC_eq f2 hm ⟨fun c => hm' (c ▸ qfp), fun c => hm' (c ▸ nfp), fun c => hm' (c ▸ y8)⟩) ?_ (by rw [r2, a2]) (fun c _ c6 c7 c8 _ => f1 c c6 c7 c8) (fun k _ => r2 k) (by rw [r2]; exact a5) ?_
            · rw [w1, mendT_R ln2 ?_ ⟨by rw [klen]; exact klt, by rw [ln _ l y3]; omega⟩]
              rintro ⟨z1, z2⟩
              obtain ⟨l', x1, x2, x3, x4, x5, x6, x7, x8⟩ := nb (s i - 1) (by omega) (by omega)
              rw [ln _ l' x3] at z2
              have := hsm z1 l' x1
              omega
            · intro m hm
              by_cases c1 : m = q
              · subst c1; rw [f3]; omega
              · by_cases c2 : m = n
                · subst c2; rw [f4]; omega
                · by_cases c3 : m = l
                  · subst c3; rw [f5]; omega
                  · rw [(f2 m hm ⟨c1, c2, c3⟩).2.2]; exact a1 m hm
            · rw [List.map_nil, List.append_nil]
              unfold spn
              rw [r2]
              rw [show seg (rd J' (B + 9)) 0 (rd J (B + 2) 7).toNat = seg (rd J (B + 9)) 0 (rd J (B + 2) 7).toNat from seg_congr (fun k _ => rd_of (f1 _ (by omega) (by omega) (by omega)) _)]
          have doJ : ∀ (b l rr : Nat), b < sq → (nsC J B q).2[b]? = some (l : Int) → (nsC J B q).2[b + 1]? = some (rr : Int) → l < 348 → rr < 348 → l ≠ q → rr ≠ q → l ≠ rr → l ∈ fpT (nsC J B) (g + 1) q → rr ∈ fpT (nsC J B) (g + 1) q → rd J (B + 8) l + 1 + rd J (B + 8) rr ≤ 5 → mendT g (s i) (mkT (nsC J B) (g + 1) q) = joi g b (mkT (nsC J B) (g + 1) q) → CallV 80 [.inr (2, B, 2), .inl (1, (q : Int)), .inl (1, (b : Int))] J (fun I7 => CallV 74 [.inr (2, B, 2), .inl (1, (q : Int)), .inl (1, (b : Int))] I7 (fun I8 => ∀ v1, v1 = (i : Int) → inR v1 → GoA 77 5 [some (.inr (2, B, 2)), some (.inl (1, v1)), some (.inl (1, (q : Int))), some (.inl (1, (s i : Int))), some (.inl (1, (b : Int)))] [] I8 (rV K))) := by
            intro b l rr hb hlk hrk lv rv lq' rq' lr' lin rin h5 hmend
            obtain ⟨ls, hls⟩ : ∃ ls : Nat, rd J (B + 8) l = ls := ⟨(rd J (B + 8) l).toNat, by have := a1 l lv; omega⟩
            obtain ⟨rs, hrs⟩ : ∃ rs : Nat, rd J (B + 8) rr = rs := ⟨(rd J (B + 8) rr).toNat, by have := a1 rr rv; omega⟩
            rw [hls, hrs] at h5
            obtain ⟨n7, hn7⟩ : ∃ n7 : Nat, rd J (B + 2) 7 = n7 := ⟨(rd J (B + 2) 7).toNat, by omega⟩
            have c7 : n7 < 348 := by
              have p1 := hperm.length_eq
              rw [List.length_append, ran_len] at p1
              have p2 := a7.length_eq
              rw [List.length_append, List.length_map, spn_len, hn7, Int.toNat_natCast] at p2
              have p3 := o4.length_eq
              rw [List.length_append] at p3
              have p4 : 1 ≤ (fpT (nsC J B) (g + 1) q).length := List.length_pos_of_mem qfp
              have u := fp_up hp i (by omega)
              rw [show d - i = g + 1 by omega, ← hq] at u
              have wn := (pth_wf hp i (by omega)).2
              rw [show d - i = g + 1 by omega, ← hq] at wn
              have p5 : (fpT ns0 (g + 1) q).length ≤ (fpT ns0 d r).length := nd_len wn u
              have p6 : (fpI ns0 d r).length = (fpT ns0 d r).length := by unfold fpI; rw [List.length_map]
              omega
            refine c_join hB qv lv rv (Ne.symm lq') (Ne.symm rq') lr' hb hsq (by omega) (tcs_get (I := J) (B := B) hlk).1 (tcs_get (I := J) (B := B) hrk).1 hls hrs (by omega) hn7 c7 a1 ?_
            intro J1 f1 f2 f3 f4 f5 f6 f7 f8 f9
            have sz1 : szOK J1 B := by
              intro m hm
              by_cases c1 : m = l
              · subst c1; rw [f7]; omega
              · rw [(f6 m hm c1).2.2]; exact a1 m hm
            have sq1' : rd J1 (B + 8) q = sq := by rw [(f6 q qv (Ne.symm lq')).2.2, hsq]
            refine c_takeOut hB qv sq1' (by omega) hb sz1 ?_
            intro J' x1 x2 x3 x4 x5
            have nq1 : nsC J1 B q = nsC J B q := nsC_eq f6 qv (Ne.symm lq')
            have hx : (nsC J B q).1[b]? = some (rd J (B + 6) (5 * q + b)) := tks_get (by rw [hsq]; omega)
            obtain ⟨w1, w2, w3⟩ := st_joi (V := fun m => m < 348) (ns := nsC J B) (ns2 := nsC J' B) (b := b) (l := l) (r := rr) wq ndq hx hlk hrk (by
              show (tks J' B q, tcs J' B q) = _
              rw [x4, x5]
              show (remL (nsC J1 B q).1 b, remL (nsC J1 B q).2 (b + 1)) = _
              rw [nq1]) (by
              rw [nsC_eq x2 lv lq']
              show (tks J1 B l, tcs J1 B l) = _
              rw [f8, f9]; rfl) (fun m hm c1 c2 c3 => by rw [nsC_eq x2 hm c1, nsC_eq f6 hm c2])
            have r2 : ∀ k, rd J' (B + 2) k = rd J1 (B + 2) k := fun k => rd_of (x1 _ (by omega) (by omega) (by omega)) k
            intro v1 ev1 iv1
            refine next J' [rr] _ (okO_s (okF_1 (inRn (by omega)) 1)) (by rw [w1, hmend]) w2 w3 (fun m hm hm' => by rw [nsC_eq x2 hm (fun c => hm' (c ▸ qfp)), nsC_eq f6 hm (fun c => hm' (c ▸ lin))]) ?_ (by rw [r2, f2 8 (by omega), a2]) (fun c c2 c6 c7 c8 c9 => by rw [x1 c c6 c7 c8, f1 c c2 c6 c7 c8 c9]) (fun k k7 => by rw [r2, f2 k k7]) (by rw [r2, f3]; omega) ?_ v1 ev1 iv1
            · intro m hm
              by_cases c1 : m = q
              · subst c1; rw [x3]; omega
              · rw [(x2 m hm c1).2.2]; exact sz1 m hm
            · have : spn J' B = spn J B ++ [(rr : Int)] := by
                unfold spn
                rw [r2, f3, show ((n7 : Int) + 1).toNat = n7 + 1 by omega, seg_succ, hn7, Int.toNat_natCast, Nat.zero_add, rd_of (x1 _ (by omega) (by omega) (by omega)), f4]
                congr 1
                exact seg_congr (fun k hk => by rw [rd_of (x1 _ (by omega) (by omega) (by omega)), f5 _ (by omega)])
              rw [this]
              exact List.Perm.refl _
          have jR : s i = 0 → (∀ l : Nat, rd J (B + 7) (6 * q + (s i + 1)) = l → rd J (B + 8) l ≤ 2) → CallV 80 [.inr (2, B, 2), .inl (1, (q : Int)), .inl (1, (s i : Int))] J (fun I7 => CallV 74 [.inr (2, B, 2), .inl (1, (q : Int)), .inl (1, (s i : Int))] I7 (fun I8 => ∀ v1, v1 = (i : Int) → inR v1 → GoA 77 5 [some (.inr (2, B, 2)), some (.inl (1, v1)), some (.inl (1, (q : Int))), some (.inl (1, (s i : Int))), some (.inl (1, (s i : Int)))] [] I8 (rV K))) := by
            intro k0 hsm
            obtain ⟨l, y1, y2, y3, y4, y5, y6, y7, y8⟩ := nb (s i + 1) (by omega) (by omega)
            have := hsm l y1
            refine doJ (s i) n l (by omega) hkJ y3 nv y2 nq y4 (Ne.symm y5) nfp y8 (by omega) ?_
            exact mendT_K ln2 (fun z => by omega) (fun z => by rw [ln _ l y3] at z; omega) (by omega)
          have jL : 0 < s i → (∀ l : Nat, rd J (B + 7) (6 * q + (s i - 1)) = l → rd J (B + 8) l ≤ 2) → (s i < sq → ∀ l : Nat, rd J (B + 7) (6 * q + (s i + 1)) = l → rd J (B + 8) l ≤ 2) → ∀ v4 : Int, v4 = wr ((s i : Int) - 1) → inR v4 → CallV 80 [.inr (2, B, 2), .inl (1, (q : Int)), .inl (1, v4)] J (fun I7 => CallV 74 [.inr (2, B, 2), .inl (1, (q : Int)), .inl (1, v4)] I7 (fun I8 => ∀ v1, v1 = (i : Int) → inR v1 → GoA 77 5 [some (.inr (2, B, 2)), some (.inl (1, v1)), some (.inl (1, (q : Int))), some (.inl (1, (s i : Int))), some (.inl (1, v4))] [] I8 (rV K))) := by
            intro k0 hsmL hsmR v4 ev4 _
            rw [wrn (s i - 1) (by omega) (by omega)] at ev4
            subst ev4
            obtain ⟨l, y1, y2, y3, y4, y5, y6, y7, y8⟩ := nb (s i - 1) (by omega) (by omega)
            have := hsmL l y1
            refine doJ (s i - 1) l n (by omega) y3 (by rw [show s i - 1 + 1 = s i by omega]; exact hkJ) y2 nv y4 nq y5 y8 nfp (by omega) ?_
            refine mendT_J ln2 (fun z => by rw [ln _ l y3] at z; omega) (fun z => ?_) k0
            rw [klen] at z
            obtain ⟨l', x1, x2, x3, x4, x5, x6, x7, x8⟩ := nb (s i + 1) (by omega) (by omega)
            have h3 := hsmR z.1 l' x1
            have h4 := z.2
            rw [ln _ l' x3] at h4
            omega
          have hq8 : rd J (B + 8) ((q : Int)).toNat = sq := by rw [Int.toNat_natCast, hsq]
          have wR : wr ((((q : Int) * 6) + (s i : Int)) + 1) = ((6 * q + (s i + 1) : Nat) : Int) := wrn _ (by omega) (by omega)
          rw [hq8, wR, Int.toNat_natCast]
          refine ⟨fun c0 => ⟨by omega, fun z => absurd z (by omega), fun z => ?_⟩, fun c0 => ?_⟩
          · obtain ⟨l, y1, y2, y3, y4, y5, y6, y7, y8⟩ := nb (s i + 1) (by omega) (by omega)
            rw [y1, Int.toNat_natCast]
            refine ⟨by omega, by omega, fun z2 => ⟨fun _ v4 ev4 iv4 => ?_, fun z3 => absurd c0 z3⟩, fun z2 => ?_⟩
            · subst ev4
              exact jR (by omega) (fun l' h' => by rw [show l' = l by omega]; exact z2)
            · exact doR (fun z => absurd z (by omega)) (by omega) (fun l' h' => by rw [show l' = l by omega]; omega)
          · have wL : wr ((((q : Int) * 6) + (s i : Int)) - 1) = ((6 * q + (s i - 1) : Nat) : Int) := wrn _ (by omega) (by omega)
            rw [wL, Int.toNat_natCast]
            obtain ⟨l, y1, y2, y3, y4, y5, y6, y7, y8⟩ := nb (s i - 1) (by omega) (by omega)
            rw [y1, Int.toNat_natCast]
            refine ⟨by omega, by omega, fun zl => ⟨by omega, fun z => ⟨fun z3 => absurd z3 c0, fun _ v4 ev4 iv4 => ?_⟩, fun z => ?_⟩, fun zl => ?_⟩
            · exact jL (by omega) (fun l' h' => by rw [show l' = l by omega]; exact zl) (fun z' => absurd z' (by omega)) v4 ev4 iv4
            · obtain ⟨l2, x1, x2, x3, x4, x5, x6, x7, x8⟩ := nb (s i + 1) (by omega) (by omega)
              rw [x1, Int.toNat_natCast]
              refine ⟨by omega, by omega, fun z2 => ⟨fun z3 => absurd z3 c0, fun _ v4 ev4 iv4 => ?_⟩, fun z2 => ?_⟩
              · exact jL (by omega) (fun l' h' => by rw [show l' = l by omega]; exact zl) (fun _ l' h' => by rw [show l' = l2 by omega]; exact z2) v4 ev4 iv4
              · exact doR (fun _ l' h' => by rw [show l' = l by omega]; exact zl) (by omega) (fun l' h' => by rw [show l' = l2 by omega]; omega)
            · exact doL (by omega) (fun l' h' => by rw [show l' = l by omega]; omega)
  refine callV_of rfl (b_mend hB ?_)
  intro v1 e1 _
  rw [hend] at e1
  rw [e1]
  exact loop d I [] none none none okO_n okO_n okO_n (Nat.le_refl _) hI hsz hroot (fun _ _ _ _ _ _ => rfl) (fun _ _ => rfl) hsp (by rw [List.map_nil, List.append_nil])
