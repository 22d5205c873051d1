/-! THE REFERENCE: an entry goes -/
set_option maxHeartbeats 1000000 in
theorem nb_of {α : Type} {V : Nat → Prop} {ns0 ns : Nat → List α × List Int} {s : Nat → Nat} {d r i g q n j l : Nat} {go : List Nat} (hp : PthOK V ns0 s d r) (hg : d = i + 1 + g) (hD : InvD V ns0 ns s d r (i + 1) go) (hq : q = pthT ns0 s r i) (hn : n = pthT ns0 s r (i + 1)) (hkj : (ns q).2[j]? = some (l : Int)) (hne : j ≠ s i) : V l ∧ l ≠ q ∧ l ≠ n ∧ ns l = ns0 l ∧ l ∈ fpT ns0 d r ∧ l ≠ r ∧ l ∈ fpT ns (g + 1) q := by
  obtain ⟨o1, o2, o3, o4⟩ := invD_mid hp hg hD
  rw [← hq] at o1 o2 o3 o4
  obtain ⟨kc, kc0, hkc, hke, hkm⟩ := pth_kid hp (i := i) (by omega)
  rw [← hq] at hkc hkm
  rw [← hn] at hke
  have kcn : kc = (n : Int) := by omega
  rw [kcn] at hkc hkm
  have hkJ : (ns q).2[s i]? = some (n : Int) := by rw [o1]; exact hkc
  have ndq : (fpT ns (g + 1) q).Nodup := by
    have wn := (pth_wf hp i (by omega)).2
    rw [show d - i = g + 1 by omega, ← hq] at wn
    exact (List.nodup_append.mp (o4.nodup_iff.mpr wn)).1
  have hm := List.mem_of_getElem? hkj
  have w := o3.2.2 _ hm
  rw [Int.toNat_natCast] at w
  have lv : V l := wfT_V w.2 l (fpT_self _ _ _)
  have lin : l ∈ fpT ns (g + 1) q := fpT_kid hm (by rw [Int.toNat_natCast]; exact fpT_self _ _ _)
  have lq' : l ≠ q := fun c => (fp_nd_kid ndq hm).2 (by rw [Int.toNat_natCast]; exact c ▸ fpT_self _ _ _)
  have ln : l ≠ n := by
    intro c
    have := nd_flat (List.nodup_cons.mp ndq).2 hkj hkJ hne l (by rw [Int.toNat_natCast]; exact fpT_self _ _ _)
    exact this (by rw [Int.toNat_natCast]; exact c ▸ fpT_self _ _ _)
  have hk0 : (ns0 q).2[j]? = some (l : Int) := by rw [← o1]; exact hkj
  have l0 : l ∈ fpT ns0 d r := by
    have u := fp_up hp i (by omega)
    rw [show d - i = g + 1 by omega, ← hq] at u
    exact u l (fpT_kid (List.mem_of_getElem? hk0) (by rw [Int.toNat_natCast]; exact fpT_self _ _ _))
  have eql : ns l = ns0 l := by
    refine hD.1 l lv (fun z => ?_)
    rw [show d - (i + 1) = g by omega, ← hn] at z
    have wn := (pth_wf hp i (by omega)).2
    rw [show d - i = g + 1 by omega, ← hq] at wn
    have := nd_flat (List.nodup_cons.mp wn).2 hk0 hkc hne l (by rw [Int.toNat_natCast]; exact fpT_self _ _ _)
    rw [Int.toNat_natCast] at this
    exact this z
  have lr : l ≠ r := by
    intro c
    have hm0 := List.mem_of_getElem? hk0
    by_cases ci : i = 0
    · subst ci
      have : q = r := hq
      exact lq' (c.trans this.symm)
    · have wn0 := hp.2.1
      obtain ⟨d', rfl⟩ : ∃ d', d = d' + 1 := ⟨d - 1, by omega⟩
      obtain ⟨kc', kc0', hkc', hke', hkm'⟩ := pth_kid hp (i := 0) (by omega)
      have lin2 : l ∈ fpT ns0 (d' + 1 - 1) (pthT ns0 s r 1) := by
        have u2 : ∀ j, 1 ≤ j → j ≤ d' + 1 → ∀ m ∈ fpT ns0 (d' + 1 - j) (pthT ns0 s r j), m ∈ fpT ns0 (d' + 1 - 1) (pthT ns0 s r 1) := by
          intro j
          induction j with
          | zero => intro z; omega
          | succ j ihj =>
            intro _ hj m hm
            by_cases cj : j = 0
            · subst cj; exact hm
            · obtain ⟨kq, kq0, hkq, hkeq, hkmq⟩ := pth_kid hp (i := j) (by omega)
              refine ihj (by omega) (by omega) m ?_
              rw [show d' + 1 - j = (d' + 1 - (j + 1)) + 1 by omega]
              rw [hkeq] at hm
              exact fpT_kid hkmq hm
        refine u2 i (by omega) (by omega) l ?_
        rw [show d' + 1 - i = g + 1 by omega, ← hq]
        exact fpT_kid hm0 (by rw [Int.toNat_natCast]; exact fpT_self _ _ _)
      have := (fp_nd_kid wn0 hkm').2
      rw [hke'] at lin2
      exact this (c ▸ lin2)
  exact ⟨lv, lq', ln, eql, l0, lr, lin⟩
set_option maxHeartbeats 8000000 in
/-- from a leaf out of which an entry was taken -/
theorem c_rmend {I J : Mm} {K : Mm → Prop} {i h r : Nat} {s : Nat → Nat} {m2 m3 m4 m5 : Option AV} (hi : i < 6) (hh : h ≤ 11) {ns0 : Nat → List E × List Int} (hp : PthOK (VR i) ns0 s h r) (h4 : ∀ m ∈ fpT ns0 h r, (ns0 m).1.length ≤ 4) (h2 : ∀ m ∈ fpT ns0 h r, m ≠ r → 2 ≤ (ns0 m).1.length) (h1 : 0 < h → 1 ≤ (ns0 r).1.length) (o2' : okO m2) (o3' : okO m3) (o4' : okO m4) (o5' : okO m5)
    (hD : InvD (VR i) ns0 (nsR J) s h r h []) (hc : cnOK J) (hroot : rd J 241 i = r) (hdp : rd J 212 42 = h) (hpn : ∀ j, j ≤ h → rd J 251 j = pthT ns0 s r j) (hps : ∀ j, j < h → rd J 252 j = s j) (hlf : 1 ≤ h → 1 ≤ rd J 243 (pthT ns0 s r h)) (htk : ∀ m, VR i m → (rd J 242 m ≠ 0 ↔ m ∈ fpT ns0 h r)) (hF : FrR I J i)
    (hK : ∀ (J' : Mm) (h' r' : Nat), FrR I J' i → TrR J' i h' r' → (⟨h', mkT (nsR J') h' r'⟩ : TS E) = shrT h (delP s h 0 (mkT ns0 h r)) → K J') : GoA 154 171 [some (.inr (3, 0, 0)), some (.inl (1, (i : Int))), m2, m3, m4, m5] [] J (rV K) := by
  have fpv : ∀ m ∈ fpT ns0 h r, VR i m := fun m hm => wfT_V hp.1 m hm
  have fpl : ∀ m ∈ fpT ns0 h r, m < 2160 := fun m hm => VR_lt hi (fpv m hm)
  have hpath : ∀ j, j ≤ h → pthT ns0 s r j ∈ fpT ns0 h r := fun j hj => fp_up hp j hj _ (fpT_self _ _ _)
  have hpr : ∀ j, 0 < j → j ≤ h → pthT ns0 s r j ≠ r := fun j h1 h2 => Ne.symm (pth_off hp h1 h2).1
  have fin : ∀ (lv : Nat) (J' : Mm) (go : List Nat), lv ≤ h → InvD (VR i) ns0 (nsR J') s h r lv go → (lv = 0 ∨ 2 ≤ (nsR J' (pthT ns0 s r lv)).1.length) → cnOK J' → rd J' 241 i = r → FrR I J' i → (∀ m, VR i m → (rd J' 242 m ≠ 0 ↔ m ∈ fpT ns0 h r ∧ m ∉ go)) → (0 ≤ (i : Int) ∧ (i : Int) < 6) ∧ (∀ v4_1, v4_1 = rd J' 241 (i : Int).toNat → inR v4_1 → (0 ≤ v4_1 ∧ v4_1 < 2160) ∧ ((rd J' 243 v4_1.toNat = 0 → (0 ≤ (wr (6 * v4_1)) ∧ (wr (6 * v4_1)) < 12960) ∧ ((rd J' 246 (wr (6 * v4_1)).toNat = (-1) → (rV K) none J') ∧ (¬ rd J' 246 (wr (6 * v4_1)).toNat = (-1) → (0 ≤ (wr (6 * v4_1)) ∧ (wr (6 * v4_1)) < 12960) ∧ ((0 ≤ (i : Int) ∧ (i : Int) < 6) ∧ (∀ I1, I1 = wt J' 241 (i : Int).toNat (rd J' 246 (wr (6 * v4_1)).toNat) → (0 ≤ v4_1 ∧ v4_1 < 2160) ∧ (∀ I2, I2 = wt I1 242 v4_1.toNat 0 → (rV K) none I2)))))) ∧ (¬ rd J' 243 v4_1.toNat = 0 → (rV K) none J'))) := by
    intro lv
    induction lv with
    | succ lv ih =>
      intro J' go hlv hD hor a1 a2 a3 a4
      obtain ⟨g, hg⟩ : ∃ g, h = lv + 1 + g := ⟨h - (lv + 1), by omega⟩
      have hl : 2 ≤ (nsR J' (pthT ns0 s r (lv + 1))).1.length := by
        rcases hor with z | z
        · omega
        · exact z
      have hk := invD_keep hp hg hD hl
      have hm := (invD_mid hp hg hD).1
      refine ih J' go (by omega) hk ?_ a1 a2 a3 a4
      by_cases c : lv = 0
      · exact Or.inl c
      · right
        rw [hm]
        exact h2 _ (hpath lv (by omega)) (hpr lv (by omega) (by omega))
    | zero =>
      intro J' go hlv hD hor a1 a2 a3 a4
      obtain ⟨b1, b2, b3, b4⟩ := hD
      rw [Nat.sub_zero] at b1 b2 b3 b4
      have b2' : mkT (nsR J') h r = delP s h 0 (mkT ns0 h r) := b2
      have b3' : wfT (VR i) (nsR J') h r := b3
      have b4' : (fpT (nsR J') h r ++ go).Perm (fpT ns0 h r) := b4
      have nda := List.nodup_append.mp (b4'.nodup_iff.mpr hp.2.1)
      have rV' : VR i r := wfT_V b3' r (fpT_self _ _ _)
      have rv : r < 2160 := VR_lt hi rV'
      have mem : ∀ m, (m ∈ fpT ns0 h r ∧ m ∉ go) ↔ m ∈ fpT (nsR J') h r := by
        intro m
        constructor
        · rintro ⟨x1, x2⟩
          rcases List.mem_append.mp (b4'.mem_iff.mpr x1) with z | z
          · exact z
          · exact absurd z x2
        · intro z
          exact ⟨b4'.mem_iff.mp (List.mem_append_left _ z), fun y => nda.2.2 m z m y rfl⟩
      have lenr : (nsR J' r).1.length = (rd J' 243 r).toNat := rks_len _ _
      have cr := a1 r rv
      refine ⟨by omega, ?_⟩
      intro v4 e4 _
      rw [Int.toNat_natCast, a2] at e4
      subst e4
      rw [Int.toNat_natCast]
      refine ⟨by omega, fun z0 => ?_, fun z0 => ?_⟩
      · obtain ⟨c0, hc0, hc1, hc2⟩ := kidsX b3'
        have r0 : rd J' 246 (6 * r) = c0 := (rcs_get (I := J') hc0).1
        rw [wrn (6 * r) (by omega) (by omega), Int.toNat_natCast, r0]
        refine ⟨by omega, fun z3 => ?_, fun z3 => ⟨by omega, by omega, ?_⟩⟩
        · have d0 : h = 0 := by
            by_cases c : h = 0
            · exact c
            · have := hc2 c; omega
          refine hK J' h r a3 ⟨a1, a2, b3', nda.1, fun m hm => (a4 m hm).trans (mem m)⟩ ?_
          rw [b2']
          subst d0
          rfl
        · have d0 : h ≠ 0 := fun c => z3 (hc1 c)
          obtain ⟨g, rfl⟩ : ∃ g, h = g + 1 := ⟨h - 1, by omega⟩
          have c0p := hc2 d0
          obtain ⟨c, hcc⟩ : ∃ c : Nat, c0 = (c : Int) := ⟨c0.toNat, by omega⟩
          subst hcc
          have cm : (c : Int) ∈ (nsR J' r).2 := List.mem_of_getElem? hc0
          have wc := (b3'.2.2 _ cm).2
          rw [Int.toNat_natCast] at wc
          have cV : VR i c := wfT_V wc c (fpT_self _ _ _)
          have cv := VR_lt hi cV
          have l0 : (nsR J' r).1.length = 0 := by rw [lenr, z0]; rfl
          have kid1 : (nsR J' r).2 = [(c : Int)] := by
            have hl2 : (nsR J' r).2.length = 1 := by rw [b3'.2.1, l0]
            obtain ⟨w, hw⟩ := List.length_eq_one_iff.mp hl2
            rw [hw] at hc0 ⊢
            simp at hc0
            rw [hc0]
          intro I1 e1
          refine ⟨by omega, ?_⟩
          rw [Int.toNat_natCast] at e1
          intro I2 e2
          have fe : fpT (nsR J') (g + 1) r = r :: fpT (nsR J') g c := by
            show r :: (nsR J' r).2.flatMap (fun c => fpT (nsR J') g c.toNat) = _
            rw [kid1]
            simp
          have n2 : nsR I2 = nsR J' := nsR_of (by rw [e2, wt_a _ _ _ _ (by omega), e1, wt_a _ _ _ _ (by omega)]) (by rw [e2, wt_a _ _ _ _ (by omega), e1, wt_a _ _ _ _ (by omega)]) (by rw [e2, wt_a _ _ _ _ (by omega), e1, wt_a _ _ _ _ (by omega)]) (by rw [e2, wt_a _ _ _ _ (by omega), e1, wt_a _ _ _ _ (by omega)])
          have ndr := nda.1
          rw [fe] at ndr
          have ndc := List.nodup_cons.mp ndr
          have k2 : ∀ m, rd I2 242 m = if m = r then 0 else rd J' 242 m := fun m => by rw [e2, rd_wt, if_pos rfl, wrx (by omega) (by omega), e1, rd_wt_a _ _ _ _ (by omega)]
          refine hK I2 g c ⟨fun x a0 a1' a2' a3' a4' a5' a6 a7 a8 a9 => by rw [e2, wt_a _ _ _ _ a2', e1, wt_a _ _ _ _ a1', a3.1 x a0 a1' a2' a3' a4' a5' a6 a7 a8 a9], fun k ka kb => by rw [e2, rd_wt_a _ _ _ _ (by omega), e1, rd_wt_a _ _ _ _ (by omega), a3.2.1 k ka kb], fun j hj => by rw [e2, rd_wt_a _ _ _ _ (by omega), e1, rd_wt_k _ _ _ _ hj, a3.2.2.1 j hj], fun m hm hv => ?_⟩ ⟨fun m hm => by rw [e2, rd_wt_a _ _ _ _ (by omega), e1, rd_wt_a _ _ _ _ (by omega)]; exact a1 m hm, by rw [e2, rd_wt_a _ _ _ _ (by omega), e1, rd_wt_s _ _ _ (inRn (by omega))], by rw [n2]; exact wc, by rw [n2]; exact ndc.2, fun m hm => ?_⟩ ?_
          · have cr' : m ≠ r := fun z => hv (z ▸ rV')
            rw [n2, k2, if_neg cr']
            exact a3.2.2.2 m hm hv
          · rw [n2, k2]
            by_cases cm' : m = r
            · rw [if_pos cm']
              exact ⟨fun z => absurd rfl z, fun z => absurd (cm' ▸ z) ndc.1⟩
            · rw [if_neg cm', a4 m hm, mem m, fe]
              exact ⟨fun z => (List.mem_cons.mp z).elim (fun y => absurd y cm') id, fun z => List.mem_cons_of_mem _ z⟩
          · rw [n2, ← b2']
            refine (shrT_0 (t := mkT (nsR J') (g + 1) r) (u := mkT (nsR J') g c) l0 ?_).symm
            have := mkT_k (g := g) hc0
            rw [Int.toNat_natCast] at this
            exact this
      · have lp : ¬ (kyT h (delP s h 0 (mkT ns0 h r))).length = 0 := by
          rw [← b2', kyT_mk, lenr]
          omega
        refine hK J' h r a3 ⟨a1, a2, b3', nda.1, fun m hm => (a4 m hm).trans (mem m)⟩ ?_
        rw [b2']
        cases h with
        | zero => rfl
        | succ d => exact (shrT_1 lp).symm
  have loop : ∀ (lv : Nat) (J' : Mm) (go : List Nat), lv ≤ h → InvD (VR i) ns0 (nsR J') s h r lv go → cnOK J' → rd J' 241 i = r → FrR I J' i → rd J' 212 42 = lv → J' 251 = J 251 → J' 252 = J 252 → (1 ≤ lv → 1 ≤ rd J' 243 (pthT ns0 s r lv)) → (∀ m, VR i m → (rd J' 242 m ≠ 0 ↔ m ∈ fpT ns0 h r ∧ m ∉ go)) → GoA 154 171 [some (.inr (3, 0, 0)), some (.inl (1, (i : Int))), m2, m3, m4, m5] [] J' (rV K) := by
    intro lv
    induction lv using Nat.strongRecOn with
    | ind lv ih =>
      intro J' go hlv hD a1 a2 a3 a4 a5 a6 a7 a8
      refine b_r_goesFromTree_171 (inRn (by omega)) o2' o3' o4' o5' ⟨fun z => ?_, fun z => ?_⟩
      · rw [a4] at z
        exact fin lv J' go hlv hD (Or.inl (by omega)) a1 a2 a3 a8
      · rw [a4] at z ⊢
        obtain ⟨i', rfl⟩ : ∃ i', lv = i' + 1 := ⟨lv - 1, by omega⟩
        have e10 : ∀ j, j ≤ h → rd J' 251 j = pthT ns0 s r j := fun j hj => by rw [rd_of a5 j, hpn j hj]
        have e11 : ∀ j, j < h → rd J' 252 j = s j := fun j hj => by rw [rd_of a6 j, hps j hj]
        rw [Int.toNat_natCast, e10 _ hlv, Int.toNat_natCast]
        obtain ⟨n, hn⟩ : ∃ n, n = pthT ns0 s r (i' + 1) := ⟨_, rfl⟩
        obtain ⟨q, hq⟩ : ∃ q, q = pthT ns0 s r i' := ⟨_, rfl⟩
        rw [← hn] at a7 ⊢
        have nin : n ∈ fpT ns0 h r := by rw [hn]; exact hpath _ hlv
        have qin : q ∈ fpT ns0 h r := by rw [hq]; exact hpath _ (by omega)
        have nV := fpv n nin
        have qV := fpv q qin
        have nv := fpl n nin
        have qv := fpl q qin
        obtain ⟨g, hg⟩ : ∃ g, h = i' + 1 + g := ⟨h - (i' + 1), by omega⟩
        obtain ⟨o1, o2, o3, o4⟩ := invD_mid hp hg hD
        rw [← hq] at o1 o2 o3 o4
        obtain ⟨kc, kc0, hkc, hke, hkm⟩ := pth_kid hp (i := i') (by omega)
        rw [← hq] at hkc hkm
        rw [← hn] at hke
        have kcn : kc = (n : Int) := by omega
        rw [kcn] at hkc hkm
        refine ⟨by omega, by omega, fun z2 => ?_, fun z2 => ?_⟩
        · obtain ⟨sq, hsq⟩ : ∃ sq : Nat, rd J' 243 q = sq := ⟨(rd J' 243 q).toNat, by have := a1 q qv; omega⟩
          have lq : (ns0 q).1.length = sq := by
            rw [← o1]
            show (rks J' q).length = sq
            rw [rks_len, hsq, Int.toNat_natCast]
          have sq2 : q ≠ r → 2 ≤ sq := fun c => by rw [← lq]; exact h2 q qin c
          have sq1 : 1 ≤ sq := by
            by_cases c : q = r
            · rw [← lq, c]; exact h1 (by omega)
            · have := sq2 c; omega
          have sq4 : sq ≤ 4 := by rw [← lq]; exact h4 q qin
          have sle : s i' ≤ sq := by
            have := hp.2.2 i' (by omega)
            rw [← hq, lq] at this
            exact this
          have wq : wfT (VR i) (nsR J') (g + 1) q := o3
          have ndq : (fpT (nsR J') (g + 1) q).Nodup := by
            have wn := (pth_wf hp i' (by omega)).2
            rw [show h - i' = g + 1 by omega, ← hq] at wn
            exact (List.nodup_append.mp (o4.nodup_iff.mpr wn)).1
          have hkJ : (nsR J' q).2[s i']? = some (n : Int) := by rw [o1]; exact hkc
          have nq : n ≠ q := fun c => (fp_nd_kid ndq (List.mem_of_getElem? hkJ)).2 (by rw [Int.toNat_natCast]; exact c ▸ fpT_self _ _ _)
          have nfp : n ∈ fpT (nsR J') (g + 1) q := fpT_kid (List.mem_of_getElem? hkJ) (by rw [Int.toNat_natCast]; exact fpT_self _ _ _)
          have qfp : q ∈ fpT (nsR J') (g + 1) q := fpT_self _ _ _
          have nbx : ∀ (j l : Nat), j ≤ sq → j ≠ s i' → rd J' 246 (6 * q + j) = l → (nsR J' q).2[j]? = some (l : Int) ∧ VR i l ∧ l ≠ q ∧ l ≠ n ∧ 2 ≤ rd J' 243 l ∧ rd J' 243 l ≤ 4 ∧ l ∈ fpT (nsR J') (g + 1) q := by
            intro j l hj hne hl
            have hkj := kidR (I := J') (n := q) (k := j) (by rw [hsq]; omega)
            rw [hl] at hkj
            obtain ⟨y1, y2, y3, y4, y5, y6, y7⟩ := nb_of hp hg hD hq hn hkj hne
            have two := h2 l y5 y6
            have four := h4 l y5
            rw [← y4] at two four
            have two' : 2 ≤ (rks J' l).length := two
            have four' : (rks J' l).length ≤ 4 := four
            rw [rks_len] at two' four'
            have lb := a1 l (VR_lt hi y1)
            exact ⟨hkj, y1, y2, y3, by omega, by omega, y7⟩
          have ln : ∀ (j l : Nat), (nsR J' q).2[j]? = some (l : Int) → lnT g (mkT (nsR J') (g + 1) q).2 j = (rd J' 243 l).toNat := by
            intro j l h
            rw [lnT_of (mkT_k h), kyT_mk, Int.toNat_natCast]
            exact rks_len _ _
          have ln2 : ¬ 2 ≤ lnT g (mkT (nsR J') (g + 1) q).2 (s i') := by rw [ln _ n hkJ, z2]; decide
          have klen : (mkT (nsR J') (g + 1) q).1.length = sq := by
            show (rks J' q).length = sq
            rw [rks_len, hsq, Int.toNat_natCast]
          have next : ∀ (I5 : Mm) (go2 : List Nat), SFr J' I5 → cnOK I5 → (∀ m, rd I5 242 m = if m ∈ go2 then 0 else rd J' 242 m) → (∀ m ∈ go2, VR i m) → mkT (nsR I5) (g + 1) q = mendT g (s i') (mkT (nsR J') (g + 1) q) → wfT (VR i) (nsR I5) (g + 1) q → (fpT (nsR I5) (g + 1) q ++ go2).Perm (fpT (nsR J') (g + 1) q) → (∀ m, m < 2160 → m ∉ fpT (nsR J') (g + 1) q → nsR I5 m = nsR J' m) → (sq - 1 : Int) ≤ rd I5 243 q → ∀ I6, I6 = wt I5 212 42 ((rd I5 212 42) - 1) → GoA 154 171 [some (.inr (3, 0, 0)), some (.inl (1, (i : Int))), m2, m3, m4, m5] [] I6 (rV K) := by
            intro I5 go2 x1 x2 x3 x3' x4 x5 x6 x7 x8 I6 e6
            have hD2 := invD_step (ns2 := nsR I5) (go2 := go2) hp hg hD (by rw [← hq]; exact x4) (by rw [← hq]; exact x5) (by rw [← hq]; exact x6) (fun m hm hm' => x7 m (VR_lt hi hm) (by rw [hq]; exact hm'))
            have n6 : nsR I6 = nsR I5 := nsR_of (by rw [e6, wt_a _ _ _ _ (by omega)]) (by rw [e6, wt_a _ _ _ _ (by omega)]) (by rw [e6, wt_a _ _ _ _ (by omega)]) (by rw [e6, wt_a _ _ _ _ (by omega)])
            have d5 : rd I5 212 42 = ((i' + 1 : Nat) : Int) := by rw [x1.2 42 (by omega), a4]
            have t6 : ∀ m, rd I6 242 m = if m ∈ go2 then 0 else rd J' 242 m := fun m => by rw [e6, rd_wt_a _ _ _ _ (by omega), x3]
            refine ih i' (by omega) I6 (go2 ++ go) (by omega) (by rw [n6]; exact hD2) (fun m hm => by rw [e6, rd_wt_a _ _ _ _ (by omega)]; exact x2 m hm) (by rw [e6, rd_wt_a _ _ _ _ (by omega), rd_of (x1.1 _ (by omega) (by omega) (by omega) (by omega) (by omega) (by omega) (by omega)), a2]) ?_ (by rw [e6, d5, rd_wt_s _ _ _ ⟨by omega, by omega⟩]; omega) (by rw [e6, wt_a _ _ _ _ (by omega), x1.1 _ (by omega) (by omega) (by omega) (by omega) (by omega) (by omega) (by omega), a5]) (by rw [e6, wt_a _ _ _ _ (by omega), x1.1 _ (by omega) (by omega) (by omega) (by omega) (by omega) (by omega) (by omega), a6]) (fun c => ?_) (fun m hm => ?_)
            · refine ⟨fun c b0 b1 b2 b3 b4 b5 b6 b7 b8 b9 => by rw [e6, wt_a _ _ _ _ b0, x1.1 c b0 b2 b3 b4 b5 b6 b7, a3.1 c b0 b1 b2 b3 b4 b5 b6 b7 b8 b9], fun k ka kb => by rw [e6, rd_wt_k _ _ _ _ kb, x1.2 k ka, a3.2.1 k ka kb], fun j hj => by rw [e6, rd_wt_a _ _ _ _ (by omega), rd_of (x1.1 _ (by omega) (by omega) (by omega) (by omega) (by omega) (by omega) (by omega)), a3.2.2.1 j hj], fun m hm hv => ?_⟩
              have hv2 : m ∉ go2 := fun z => hv (x3' m z)
              have hv3 : m ∉ fpT (nsR J') (g + 1) q := fun z => hv (wfT_V wq m z)
              rw [n6, x7 m hm hv3, t6, if_neg hv2]
              exact a3.2.2.2 m hm hv
            · rw [← hq, e6, rd_wt_a _ _ _ _ (by omega)]
              have : q ≠ r := by rw [hq]; exact hpr i' (by omega) (by omega)
              have := sq2 this
              omega
            · rw [t6, List.mem_append]
              by_cases c : m ∈ go2
              · rw [if_pos c]
                exact ⟨fun z => absurd rfl z, fun z => absurd (Or.inl c) z.2⟩
              · rw [if_neg c, a8 m hm]
                exact ⟨fun z => ⟨z.1, fun y => y.elim c z.2⟩, fun z => ⟨z.1, fun y => z.2 (Or.inr y)⟩⟩
          refine c_settle (lv := i') (n := n) (q := q) (b := s i') (sq := sq) a4 (by omega) (by rw [e10 _ hlv, hn]) (by rw [e10 _ (by omega), hq]) (by rw [e11 _ (by omega)]) nv qv nq z2 hsq sq1 sq4 sle a1 ?_ ?_ ?_ ?_ ?_
          · intro j hj hne
            have hkj := kidR (I := J') (n := q) (k := j) (by rw [hsq]; omega)
            have w := wq.2.2 _ (List.mem_of_getElem? hkj)
            obtain ⟨l, hl⟩ : ∃ l : Nat, rd J' 246 (6 * q + j) = l := ⟨(rd J' 246 (6 * q + j)).toNat, by omega⟩
            obtain ⟨y1, y2, y3, y4, y5, y6, y7⟩ := nbx j l hj hne hl
            exact ⟨l, hl, VR_lt hi y2, y3, y4, y5, y6⟩
          · -- from the left
            intro b0 l hl big I5 w1 w2 w3 w4 w5 w6 w7 w8
            obtain ⟨y1, y2, y3, y4, y5, y6, y7⟩ := nbx (s i' - 1) l (by omega) (by omega) hl
            obtain ⟨ls, hls⟩ : ∃ ls : Nat, rd J' 243 l = ls := ⟨(rd J' 243 l).toNat, by omega⟩
            rw [hls, Int.toNat_natCast] at w4 w6
            have hx : (nsR J' q).1[s i' - 1]? = some (sE J' (5 * q + (s i' - 1))) := rks_get (by rw [hsq]; omega)
            have hr : (nsR J' q).2[s i' - 1 + 1]? = some (n : Int) := by rw [show s i' - 1 + 1 = s i' by omega]; exact hkJ
            have hy : (nsR J' l).1.getLast? = some (sE J' (5 * l + (ls - 1))) := by
              rw [List.getLast?_eq_getElem?]
              show (rks J' l)[(rks J' l).length - 1]? = _
              rw [rks_len, hls, Int.toNat_natCast, rks_get (by rw [hls]; omega)]
            have hz : (nsR J' l).2.getLast? = some (rd J' 246 (6 * l + ls)) := by
              rw [List.getLast?_eq_getElem?]
              show (rcs J' l)[(rcs J' l).length - 1]? = _
              rw [rcs_len, hls, Int.toNat_natCast]
              exact kidR (by rw [hls]; omega)
            obtain ⟨p1, p2, p3⟩ := st_tfl (V := VR i) (ns := nsR J') (ns2 := nsR I5) (b := s i' - 1) wq ndq hx y1 hr hy hz w4 w5 w6 (fun m hm c1 c2 c3 => w7 m (VR_lt hi hm) c1 c2 c3)
            refine next I5 [] w1 w2 (fun m => by rw [if_neg (by simp), w3]) (fun m hm => by cases hm) ?_ p2 p3 (fun m hm hm' => w7 m hm (fun c => hm' (c ▸ qfp)) (fun c => hm' (c ▸ y7)) (fun c => hm' (c ▸ nfp))) (by rw [w8]; omega)
            rw [p1, mendT_L ln2 ⟨b0, by rw [ln _ l y1]; omega⟩]
          · -- from the right
            intro hs0 bs l hl big I5 w1 w2 w3 w4 w5 w6 w7 w8
            obtain ⟨y1, y2, y3, y4, y5, y6, y7⟩ := nbx (s i' + 1) l (by omega) (by omega) hl
            obtain ⟨ls, hls⟩ : ∃ ls : Nat, rd J' 243 l = ls := ⟨(rd J' 243 l).toNat, by omega⟩
            have hx : (nsR J' q).1[s i']? = some (sE J' (5 * q + s i')) := rks_get (by rw [hsq]; omega)
            have hy : (nsR J' l).1.head? = some (sE J' (5 * l)) := by
              rw [List.head?_eq_getElem?]
              show (rks J' l)[0]? = _
              rw [rks_get (by rw [hls]; omega)]
              rfl
            have hz : (nsR J' l).2.head? = some (rd J' 246 (6 * l)) := by
              rw [List.head?_eq_getElem?]
              exact kidR (by omega)
            obtain ⟨p1, p2, p3⟩ := st_tfr (V := VR i) (ns := nsR J') (ns2 := nsR I5) (b := s i') wq ndq hx hkJ y1 hy hz w4 w5 w6 (fun m hm c1 c2 c3 => w7 m (VR_lt hi hm) c1 c2 c3)
            refine next I5 [] w1 w2 (fun m => by rw [if_neg (by simp), w3]) (fun m hm => by cases hm) ?_ p2 p3 (fun m hm hm' => w7 m hm (fun c => hm' (c ▸ qfp)) (fun c => hm' (c ▸ nfp)) (fun c => hm' (c ▸ y7))) (by rw [w8]; omega)
            rw [p1, mendT_R ln2 ?_ ⟨by rw [klen]; exact bs, by rw [ln _ l y1]; omega⟩]
            rintro ⟨c1, c2⟩
            obtain ⟨l', hl'⟩ : ∃ l' : Nat, rd J' 246 (6 * q + (s i' - 1)) = l' := by
              have hkj := kidR (I := J') (n := q) (k := s i' - 1) (by rw [hsq]; omega)
              have w := wq.2.2 _ (List.mem_of_getElem? hkj)
              exact ⟨(rd J' 246 (6 * q + (s i' - 1))).toNat, by omega⟩
            obtain ⟨x1, x2, x3, x4, x5, x6, x7⟩ := nbx (s i' - 1) l' (by omega) (by omega) hl'
            rw [ln _ l' x1] at c2
            have := hs0 c1 l' hl'
            omega
          · -- joined with the left
            intro b0 hsm hsm2 l hl I5 w1 w2 w3 w4 w5 w6 w7
            obtain ⟨y1, y2, y3, y4, y5, y6, y7⟩ := nbx (s i' - 1) l (by omega) (by omega) hl
            have hx : (nsR J' q).1[s i' - 1]? = some (sE J' (5 * q + (s i' - 1))) := rks_get (by rw [hsq]; omega)
            have hr : (nsR J' q).2[s i' - 1 + 1]? = some (n : Int) := by rw [show s i' - 1 + 1 = s i' by omega]; exact hkJ
            obtain ⟨p1, p2, p3⟩ := st_joi (V := VR i) (ns := nsR J') (ns2 := nsR I5) (b := s i' - 1) (l := l) (r := n) wq ndq hx y1 hr w4 w5 (fun m hm c1 c2 c3 => w6 m (VR_lt hi hm) c1 c2)
            refine next I5 [n] w1 w2 (fun m => by rw [w3]; by_cases c : m = n <;> simp [c]) (fun m hm => by rw [List.mem_singleton.mp hm]; exact nV) ?_ p2 p3 (fun m hm hm' => w6 m hm (fun c => hm' (c ▸ qfp)) (fun c => hm' (c ▸ y7))) (by rw [w7]; omega)
            rw [p1]
            have := hsm l hl
            refine (mendT_J ln2 (fun c => by rw [ln _ l y1] at c; omega) (fun c => ?_) b0).symm
            rw [klen] at c
            obtain ⟨l', hl'⟩ : ∃ l' : Nat, rd J' 246 (6 * q + (s i' + 1)) = l' := by
              have hkj := kidR (I := J') (n := q) (k := s i' + 1) (by rw [hsq]; omega)
              have w := wq.2.2 _ (List.mem_of_getElem? hkj)
              exact ⟨(rd J' 246 (6 * q + (s i' + 1))).toNat, by omega⟩
            obtain ⟨x1, x2, x3, x4, x5, x6, x7⟩ := nbx (s i' + 1) l' (by omega) (by omega) hl'
            have h3 := hsm2 c.1 l' hl'
            have h4' := c.2
            rw [ln _ l' x1] at h4'
            omega
          · -- joined with the right
            intro b0 hsm l hl I5 w1 w2 w3 w4 w5 w6 w7
            obtain ⟨y1, y2, y3, y4, y5, y6, y7⟩ := nbx (s i' + 1) l (by omega) (by omega) hl
            have hx : (nsR J' q).1[s i']? = some (sE J' (5 * q + s i')) := rks_get (by rw [hsq]; omega)
            obtain ⟨p1, p2, p3⟩ := st_joi (V := VR i) (ns := nsR J') (ns2 := nsR I5) (b := s i') (l := n) (r := l) wq ndq hx hkJ y1 w4 w5 (fun m hm c1 c2 c3 => w6 m (VR_lt hi hm) c1 c2)
            refine next I5 [l] w1 w2 (fun m => by rw [w3]; by_cases c : m = l <;> simp [c]) (fun m hm => by rw [List.mem_singleton.mp hm]; exact y2) ?_ p2 p3 (fun m hm hm' => w6 m hm (fun c => hm' (c ▸ qfp)) (fun c => hm' (c ▸ nfp))) (by rw [w7]; omega)
            rw [p1]
            have := hsm l hl
            exact (mendT_K ln2 (fun c => by omega) (fun c => by have h4' := c.2; rw [ln _ l y1] at h4'; omega) (by omega)).symm
        · refine fin (i' + 1) J' go hlv hD (Or.inr ?_) a1 a2 a3 a8
          rw [← hn]
          show 2 ≤ (rks J' n).length
          rw [rks_len]
          have := a7 (by omega)
          omega
  exact loop h J [] (Nat.le_refl _) hD hc hroot hF hdp rfl rfl hlf (fun m hm => (htk m hm).trans ⟨fun z => ⟨z, by simp⟩, fun z => z.1⟩)
