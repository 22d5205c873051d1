/-! THE REFERENCE: an entry goes, as a whole -/
set_option maxHeartbeats 8000000 in
theorem c_goes {I : Mm} {K : Mm → Prop} {i fa : Nat} {T : TS E} (hi : i < 6) (hT : TreeR I i T) (hg : good T) (hl : (lsT T).length ≤ 648)
    (hK : ∀ I' : Mm, FrR I I' i → TreeR I' i (cutT (atE I) T) → K I') : CallV 154 [.inr (3, 0, 0), .inl (fa, (i : Int))] I K := by
  obtain ⟨h, T2⟩ := T
  obtain ⟨r, hC, hT2⟩ := hT
  have hC0 : TrR I i h r := hC
  simp only at hT2
  obtain ⟨t1, t2, t3, t4, t5⟩ := hC0
  have hh : h ≤ 5 := ht_good hg (by omega)
  refine callV_fl (as' := [.inr (3, 0, 0), .inl (1, (i : Int))]) rfl ?_
  refine callV_of rfl (b_r_goesFromTree (inRn (by omega)) ?_)
  refine c_rfind hi t1 t2 t3 (by omega) ?_
  intro d x I1 f1 f2 f3 f4 f5 f6 f7
  have n1 : nsR I1 = nsR I := nsR_of (f1 _ (by omega) (by omega) (by omega)) (f1 _ (by omega) (by omega) (by omega)) (f1 _ (by omega) (by omega) (by omega)) (f1 _ (by omega) (by omega) (by omega))
  have c1 : cnOK I1 := fun m hm => by rw [rd_of (f1 _ (by omega) (by omega) (by omega))]; exact t1 m hm
  have filN : fil h (rtA h) 4 (mkT (nsR I) h r) := by rw [← hT2]; exact hg.1
  have h4 := fil_nodes (Nat.le_refl 4) filN
  have h2 := fil_low2 filN
  have h1 : 0 < h → 1 ≤ (nsR I r).1.length := fun z => by
    have := (fil_ky filN).1
    rw [kyT_mk] at this
    unfold rtA at this
    rw [if_neg (by omega)] at this
    exact this
  rcases f7 with ⟨fx, fh⟩ | ⟨fx, fh, fd⟩
  · subst fx
    refine ⟨fun z => absurd z (by omega), fun _ => ?_⟩
    have hkey := hit_iff.mp fh
    rw [← (f5 d (Nat.le_refl _)).2.2] at hkey
    have kl := (List.getElem?_eq_some_iff.mp hkey).1
    rw [rks_len] at kl
    have hs1 : ∀ j, j ≤ d → tJ I1 j ≤ (nsR I (pthT (nsR I) (tJ I1) r j)).1.length := fun j hj => by rw [(f5 j hj).2.2]; exact kc_le _ _
    have pw : ∀ j, j ≤ d → wfT (VR i) (nsR I) (h - j) (pthT (nsR I) (tJ I1) r j) ∧ ∀ m ∈ fpT (nsR I) (h - j) (pthT (nsR I) (tJ I1) r j), m ∈ fpT (nsR I) h r := by
      intro j
      induction j with
      | zero => intro _; exact ⟨t3, fun m hm => hm⟩
      | succ j ih =>
        intro hj
        obtain ⟨w, wf⟩ := ih (by omega)
        obtain ⟨g, hg'⟩ : ∃ g, h - j = g + 1 := ⟨h - j - 1, by omega⟩
        rw [hg'] at w wf
        obtain ⟨c, hc, c0, wc, ec⟩ := kid_of w (hs1 j (by omega))
        rw [show h - (j + 1) = g by omega]
        have e1 : pthT (nsR I) (tJ I1) r (j + 1) = c.toNat := ec
        rw [e1]
        exact ⟨wc, fun m hm => wf m (fpT_kid (List.mem_of_getElem? hc) hm)⟩
    obtain ⟨wn, wfn⟩ := pw d (Nat.le_refl _)
    have nin := wfn _ (fpT_self _ _ _)
    have nV : VR i (pthT (nsR I) (tJ I1) r d) := wfT_V t3 _ nin
    have nv := VR_lt hi nV
    have szn := t1 _ nv
    have doneD : ∀ (J' : Mm) (h' r' : Nat) (s : Nat → Nat), fnT (atE I) h T2 = true → (∀ j, j ≤ h → s j = dsT (atE I) h T2 j) → FrR I J' i → TrR J' i h' r' → (⟨h', mkT (nsR J') h' r'⟩ : TS E) = shrT h (delP s h 0 (r1T (atE I) s h 0 T2)) → K J' := by
      intro J' h' r' s u13 u15 hF hR hE
      refine hK J' hF ?_
      have res : cutT (atE I) ⟨h, T2⟩ = ⟨h', mkT (nsR J') h' r'⟩ := by
        unfold cutT
        rw [if_pos u13, hE]
        show shrT h (delP (dsT (atE I) h T2) h 0 (r1T (atE I) (dsT (atE I) h T2) h 0 T2)) = _
        have e1 : r1T (atE I) (dsT (atE I) h T2) h 0 T2 = r1T (atE I) s h 0 T2 := by
          unfold r1T
          cases gbT (atE I) h T2 with
          | none => rfl
          | some x => exact repP_congr h 0 T2 (fun j hj => by rw [Nat.zero_add]; exact (u15 j hj).symm)
        rw [e1, delP_congr (s := dsT (atE I) h T2) (s' := s) h 0 _ (fun j hj => by rw [Nat.zero_add]; exact (u15 j hj).symm)]
      rw [res]
      exact ⟨r', hR, rfl⟩
    rw [f3, Int.toNat_natCast, (f5 d (Nat.le_refl _)).1, (f5 d (Nat.le_refl _)).2.1]
    refine ⟨by omega, ?_⟩
    intro v2 e2 i2
    subst e2
    refine ⟨by omega, ?_⟩
    intro v3 e3 i3
    subst e3
    obtain ⟨c0, hc0, hc1, hc2⟩ := kidsX wn
    have r0 : rd I 246 (6 * pthT (nsR I) (tJ I1) r d) = c0 := (rcs_get (I := I) hc0).1
    have w6 : wr (6 * ((pthT (nsR I) (tJ I1) r d : Nat) : Int)) = ((6 * pthT (nsR I) (tJ I1) r d : Nat) : Int) := wrn _ (by omega) (by omega)
    have r17 : ∀ x, rd I1 246 x = rd I 246 x := fun x => rd_of (f1 _ (by omega) (by omega) (by omega)) x
    rw [w6, Int.toNat_natCast, r17, r0]
    refine ⟨by omega, fun z => ?_, fun z => ?_⟩
    · have dh : d = h := by
        by_cases cc : h - d = 0
        · omega
        · have := hc2 cc; omega
      subst dh
      have F := fd0_of t3 (fun j hj => (f5 j hj).2.2) f6 fh
      rw [← hT2] at F
      obtain ⟨sz, hsz⟩ : ∃ sz : Nat, rd I 243 (pthT (nsR I) (tJ I1) r d) = sz := ⟨(rd I 243 (pthT (nsR I) (tJ I1) r d)).toNat, by omega⟩
      rw [hsz, Int.toNat_natCast] at kl
      have hpI : PthOK (VR i) (nsR I) (tJ I1) d r := ⟨t3, t4, hs1⟩
      rw [show ((tJ I1 d : Nat) : Int) + 1 = ((tJ I1 d + 1 : Nat) : Int) by omega]
      refine c_rtakeOut (s := sz) (k := tJ I1 d) (dr := tJ I1 d + 1) nv (by rw [rd_of (f1 _ (by omega) (by omega) (by omega)), hsz]) (by omega) kl (by omega) ?_
      intro J x1 x2 x3 x4 x5
      have hD : InvD (VR i) (nsR I) (nsR J) (tJ I1) d r d [] := by
        refine invD_start hpI (by show _ < (rks I _).length; rw [rks_len, hsz, Int.toNat_natCast]; exact kl) ?_ (fun m hm cm => by rw [nsR_off x2 c1 (VR_lt hi hm) cm, n1])
        show (rks J _, rcs J _) = _
        rw [x4, x5]
        show (remL (nsR I1 _).1 _, remL (nsR I1 _).2 _) = _
        rw [n1]
      have frJ : ∀ c, c ≠ 212 → c ≠ 243 → c ≠ 244 → c ≠ 245 → c ≠ 246 → c ≠ 251 → c ≠ 252 → J c = I c := fun c a0 a3 a4 a5 a6 a8 a9 => by rw [x1 c a3 a4 a5 a6, f1 c a0 a8 a9]
      have cJ : cnOK J := by
        intro m hm
        by_cases c : m = pthT (nsR I) (tJ I1) r d
        · subst c; rw [x3]; omega
        · rw [x2.2.2 m c]; exact c1 m hm
      refine c_rmend (I := I) (ns0 := nsR I) (s := tJ I1) hi (by omega) hpI h4 h2 h1 (okO_s (okF_1 i2 1)) (okO_s (okF_1 i3 1)) okO_n okO_n hD cJ (by rw [rd_of (frJ _ (by omega) (by omega) (by omega) (by omega) (by omega) (by omega) (by omega)), t2]) (by rw [rd_of (x1 _ (by omega) (by omega) (by omega) (by omega)), f3]) (fun j hj => by rw [rd_of (x1 _ (by omega) (by omega) (by omega) (by omega)), (f5 j hj).1]) (fun j hj => by rw [rd_of (x1 _ (by omega) (by omega) (by omega) (by omega)), (f5 j (by omega)).2.1]) ?_ (fun m hm => by rw [rd_of (frJ _ (by omega) (by omega) (by omega) (by omega) (by omega) (by omega) (by omega))]; exact t5 m hm) ?_ ?_
      · intro d1
        have ne : pthT (nsR I) (tJ I1) r d ≠ r := Ne.symm (pth_off hpI (show 0 < d by omega) (Nat.le_refl _)).1
        have two : 2 ≤ (rks I (pthT (nsR I) (tJ I1) r d)).length := h2 _ nin ne
        rw [rks_len, hsz, Int.toNat_natCast] at two
        rw [x3]
        omega
      · refine ⟨fun c a0 a1 a2 a3 a4 a5 a6 a7 a8 a9 => frJ c a0 a3 a4 a5 a6 a8 a9, fun k _ kb => by rw [rd_of (x1 _ (by omega) (by omega) (by omega) (by omega)), f2 k kb], fun j _ => rd_of (frJ _ (by omega) (by omega) (by omega) (by omega) (by omega) (by omega) (by omega)) j, fun m hm hv => ?_⟩
        have c : m ≠ pthT (nsR I) (tJ I1) r d := fun z => hv (z ▸ nV)
        rw [nsR_off x2 c1 hm c, n1, rd_of (frJ _ (by omega) (by omega) (by omega) (by omega) (by omega) (by omega) (by omega))]
        exact ⟨rfl, rfl⟩
      · intro J' h' r' hF hR hE
        refine doneD J' h' r' (tJ I1) F.1 F.2.2.2 hF hR ?_
        rw [hE]
        have : r1T (atE I) (tJ I1) d 0 T2 = T2 := by
          unfold r1T
          rw [F.2.2.1]
        rw [this, hT2]
    · have dh : d < h := by
        by_cases cc : h - d = 0
        · exact absurd (hc1 cc) z
        · omega
      have w5 : wr (5 * ((pthT (nsR I) (tJ I1) r d : Nat) : Int) + ((tJ I1 d : Nat) : Int)) = ((5 * pthT (nsR I) (tJ I1) r d + tJ I1 d : Nat) : Int) := wrn _ (by omega) (by omega)
      have w7 : wr (6 * ((pthT (nsR I) (tJ I1) r d : Nat) : Int) + ((tJ I1 d : Nat) : Int)) = ((6 * pthT (nsR I) (tJ I1) r d + tJ I1 d : Nat) : Int) := wrn _ (by omega) (by omega)
      rw [w5, w7, Int.toNat_natCast, r17]
      intro v4 e4 i4
      refine ⟨by omega, ?_⟩
      intro v5 e5 i5
      -- down to the greatest below
      have down : ∀ (g l m : Nat) (J : Mm) (m2 m3 : Option AV), okO m2 → okO m3 → l + 1 + g = h → d ≤ l → (∀ c, c ≠ 212 → c ≠ 251 → c ≠ 252 → J c = I c) → (∀ k, k ≠ 42 → rd J 212 k = rd I 212 k) → rd J 212 42 = l → (∀ j, j ≤ l → rd J 251 j = pthT (nsR I) (tJ J) r j ∧ rd J 252 j = tJ J j) → (∀ j, j ≤ d → tJ J j = tJ I1 j) → (∀ j, d < j → j ≤ l → tJ J j = (rks I (pthT (nsR I) (tJ J) r j)).length) → m = pthT (nsR I) (tJ J) r (l + 1) → wfT (VR i) (nsR I) g m → GoA 154 57 [some (.inr (3, 0, 0)), some (.inl (1, (i : Int))), m2, m3, some (.inl (1, ((5 * pthT (nsR I) (tJ I1) r d + tJ I1 d : Nat) : Int))), some (.inl (1, (m : Int)))] [] J (rV K) := by
        intro g
        induction g using Nat.strongRecOn with
        | ind g ih =>
          intro l m J m2 m3 o2 o3 hlg hdl g1 g2 g3 g4 g5 g6 hm wm
          have mV : VR i m := wfT_V wm m (fpT_self _ _ _)
          have mv := VR_lt hi mV
          have cm := t1 m mv
          obtain ⟨sz, hsz⟩ : ∃ sz : Nat, rd I 243 m = sz := ⟨(rd I 243 m).toNat, by omega⟩
          refine b_r_goesFromTree_57 (inRn (by omega)) o2 o3 (inRn (by omega)) (inRn (by omega)) ?_
          rw [g3]
          intro J1 e1
          have d1 : rd J1 212 42 = ((l + 1 : Nat) : Int) := by rw [e1, rd_wt_s _ _ _ ⟨by omega, by omega⟩]; rfl
          rw [d1, Int.toNat_natCast]
          refine ⟨by omega, ?_⟩
          intro J2 e2'
          have d2 : rd J2 212 42 = ((l + 1 : Nat) : Int) := by rw [e2', rd_wt_a _ _ _ _ (by omega), d1]
          have c2 : rd J2 243 m = sz := by rw [e2', rd_wt_a _ _ _ _ (by omega), e1, rd_wt_a _ _ _ _ (by omega), rd_of (g1 _ (by omega) (by omega) (by omega)), hsz]
          rw [d2, Int.toNat_natCast, Int.toNat_natCast, c2]
          refine ⟨by omega, by omega, ?_⟩
          intro J3 e3'
          have fr3 : ∀ c, c ≠ 212 → c ≠ 251 → c ≠ 252 → J3 c = I c := fun c a0 a1 a2 => by rw [e3', wt_a _ _ _ _ a2, e2', wt_a _ _ _ _ a1, e1, wt_a _ _ _ _ a0, g1 c a0 a1 a2]
          have fk3 : ∀ k, k ≠ 42 → rd J3 212 k = rd I 212 k := fun k hk => by rw [e3', rd_wt_a _ _ _ _ (by omega), e2', rd_wt_a _ _ _ _ (by omega), e1, rd_wt_k _ _ _ _ hk, g2 k hk]
          have d3 : rd J3 212 42 = ((l + 1 : Nat) : Int) := by rw [e3', rd_wt_a _ _ _ _ (by omega), d2]
          have q1 : ∀ x, rd J3 251 x = if x = l + 1 then (m : Int) else rd J 251 x := fun x => by rw [e3', rd_wt_a _ _ _ _ (by omega), e2', rd_wt, if_pos rfl, wrn m rfl (by omega), e1, rd_wt_a _ _ _ _ (by omega)]
          have q2 : ∀ x, rd J3 252 x = if x = l + 1 then (sz : Int) else rd J 252 x := fun x => by
            rw [e3', rd_wt, if_pos rfl, wrn sz rfl (by omega)]
            by_cases c : x = l + 1
            · rw [if_pos c, if_pos c]
            · rw [if_neg c, if_neg c, e2', rd_wt_a _ _ _ _ (by omega), e1, rd_wt_a _ _ _ _ (by omega)]
          have es : ∀ j, j ≤ l → tJ J3 j = tJ J j := fun j hj => by unfold tJ; rw [q2, if_neg (by omega)]
          have esl : tJ J3 (l + 1) = sz := by unfold tJ; rw [q2, if_pos rfl, Int.toNat_natCast]
          have ep : ∀ j, j ≤ l + 1 → pthT (nsR I) (tJ J3) r j = pthT (nsR I) (tJ J) r j := fun j hj => pthT_congr j (fun i hi => es i (by omega))
          have G4 : ∀ j, j ≤ l + 1 → rd J3 251 j = pthT (nsR I) (tJ J3) r j ∧ rd J3 252 j = tJ J3 j := by
            intro j hj
            rw [q1, q2, ep j hj]
            by_cases c : j = l + 1
            · subst c; rw [if_pos rfl, if_pos rfl, esl, ← hm]; exact ⟨rfl, rfl⟩
            · rw [if_neg c, if_neg c, es j (by omega)]; exact g4 j (by omega)
          have G5 : ∀ j, j ≤ d → tJ J3 j = tJ I1 j := fun j hj => by rw [es j (by omega), g5 j hj]
          have G6 : ∀ j, d < j → j ≤ l + 1 → tJ J3 j = (rks I (pthT (nsR I) (tJ J3) r j)).length := by
            intro j h1 h2
            rw [ep j h2]
            by_cases c : j = l + 1
            · subst c; rw [esl, ← hm, rks_len, hsz, Int.toNat_natCast]
            · rw [es j (by omega)]; exact g6 j h1 (by omega)
          obtain ⟨k0, hk0, hk1, hk2⟩ := kidsX wm
          have s0 : rd I 246 (6 * m) = k0 := (rcs_get (I := I) hk0).1
          have r3 : ∀ x, rd J3 246 x = rd I 246 x := fun x => rd_of (fr3 _ (by omega) (by omega) (by omega)) x
          have c3 : ∀ x, rd J3 243 x = rd I 243 x := fun x => rd_of (fr3 _ (by omega) (by omega) (by omega)) x
          rw [wrn (6 * m) (by omega) (by omega), Int.toNat_natCast, r3, s0, c3, hsz]
          refine ⟨by omega, fun z3 => ⟨by omega, ?_⟩, fun z3 => ⟨by omega, ?_⟩⟩
          · -- the leaf
            have g0 : g = 0 := by
              by_cases c : g = 0
              · exact c
              · have := hk2 c; omega
            subst g0
            have lh : l + 1 = h := by omega
            obtain ⟨s, sa, sb⟩ : ∃ s : Nat → Nat, (∀ j, j < h → s j = tJ J3 j) ∧ s h = sz - 1 := ⟨fun j => if j = h then sz - 1 else tJ J3 j, fun j hj => if_neg (by omega), if_pos rfl⟩
            have ps : ∀ j, j ≤ h → pthT (nsR I) s r j = pthT (nsR I) (tJ J3) r j := fun j hj => pthT_congr j (fun i hi => sa i (by omega))
            have pm : pthT (nsR I) s r h = m := by rw [ps h (Nat.le_refl _), ← lh, ep (l + 1) (Nat.le_refl _), ← hm]
            have sd : ∀ j, j ≤ d → s j = tJ I1 j := fun j hj => by rw [sa j (by omega), G5 j hj]
            have pd : ∀ j, j ≤ d → pthT (nsR I) s r j = pthT (nsR I) (tJ I1) r j := fun j hj => pthT_congr j (fun i hi => sd i (by omega))
            have lenm : (rks I m).length = sz := by rw [rks_len, hsz, Int.toNat_natCast]
            have sg : ∀ j, d < j → j < h → s j = (rks I (pthT (nsR I) s r j)).length := fun j h1 h2 => by rw [sa j h2, ps j (by omega)]; exact G6 j h1 (by omega)
            have u11 : ∀ j, j ≤ h → s j ≤ (nsR I (pthT (nsR I) s r j)).1.length := by
              intro j hj
              by_cases cj : j ≤ d
              · rw [sd j cj, pd j cj]; exact hs1 j cj
              · by_cases ch : j = h
                · subst ch
                  rw [sb, pm]
                  show _ ≤ (rks I m).length
                  omega
                · exact Nat.le_of_eq (sg j (by omega) (by omega))
            have hpI : PthOK (VR i) (nsR I) s h r := ⟨t3, t4, u11⟩
            have min : m ∈ fpT (nsR I) h r := by rw [← pm]; exact fp_up hpI h (Nat.le_refl _) _ (fpT_self _ _ _)
            have mr : m ≠ r := by rw [← pm]; exact Ne.symm (pth_off hpI (show 0 < h by omega) (Nat.le_refl _)).1
            have two : 2 ≤ (rks I m).length := h2 m min mr
            have four : (rks I m).length ≤ 4 := h4 m min
            rw [lenm] at two four
            have mn : m ≠ pthT (nsR I) (tJ I1) r d := by
              rw [← pm, ← pd d (Nat.le_refl _)]
              exact Ne.symm (pth_off hpI dh (Nat.le_refl _)).1
            rw [show 5 * (m : Int) + (sz : Int) - 1 = ((5 * m + (sz - 1) : Nat) : Int) by omega]
            refine c_copySlot (by omega) (by omega) ?_
            intro J4 y1 y2 y3
            have s3 : ∀ p, sE J3 p = sE I p := fun p => sE_of (fr3 _ (by omega) (by omega) (by omega)) (fr3 _ (by omega) (by omega) (by omega)) p
            have fr4 : ∀ c, c ≠ 212 → c ≠ 244 → c ≠ 245 → c ≠ 251 → c ≠ 252 → J4 c = I c := fun c a0 a4 a5 a8 a9 => by rw [y1 c a4 a5, fr3 c a0 a8 a9]
            have c4 : ∀ x, rd J4 243 x = rd I 243 x := fun x => rd_of (fr4 _ (by omega) (by omega) (by omega) (by omega) (by omega)) x
            have k4 : ∀ x, (nsR J4 x).2 = (nsR I x).2 := fun x => by
              show rcs J4 x = rcs I x
              unfold rcs
              rw [c4, show rd J4 246 = rd I 246 from funext (fun y => rd_of (fr4 _ (by omega) (by omega) (by omega) (by omega) (by omega)) y)]
            have l4 : ∀ x, (nsR J4 x).1.length = (nsR I x).1.length := fun x => by
              show (rks J4 x).length = (rks I x).length
              rw [rks_len, rks_len, c4]
            have n4 : nsR J4 (pthT (nsR I) (tJ I1) r d) = ((nsR I (pthT (nsR I) (tJ I1) r d)).1.set (tJ I1 d) (sE I (5 * m + (sz - 1))), (nsR I (pthT (nsR I) (tJ I1) r d)).2) := by
              refine Prod.ext ?_ (k4 _)
              show sgA (sE J4) _ (rd J4 243 _).toNat = (sgA (sE I) _ (rd I 243 _).toNat).set _ _
              rw [c4]
              exact sgA_set kl (fun x hx hne => by rw [y3 _ (by omega), s3]) (by rw [y2, s3])
            have o4 : ∀ x, x < 2160 → x ≠ pthT (nsR I) (tJ I1) r d → nsR J4 x = nsR I x := by
              intro x hx hne
              refine Prod.ext ?_ (k4 _)
              show sgA (sE J4) _ (rd J4 243 _).toNat = sgA (sE I) _ (rd I 243 _).toNat
              rw [c4]
              have := t1 x hx
              exact sgA_congr (fun y hy => by rw [y3 _ (by omega), s3])
            have F := fd1_of (s := s) (d := d) dh t3 (fun j hj => by rw [pd j hj, sd j hj]; exact (f5 j hj).2.2) (fun j hj => by rw [pd j (by omega)]; exact f6 j hj) (by rw [pd d (Nat.le_refl _)]; exact fh) sg (by rw [sb, pm]; show _ = (rks I m).length - 1; rw [lenm])
            rw [← hT2, pm] at F
            have xl : (nsR I m).1.getLast? = some (sE I (5 * m + (sz - 1))) := by
              rw [List.getLast?_eq_getElem?]
              show (rks I m)[(rks I m).length - 1]? = _
              rw [lenm, rks_get (by rw [hsz]; omega)]
            have R1 : r1T (atE I) s h 0 T2 = mkT (nsR J4) h r := by
              unfold r1T
              rw [F.2.2.1, xl, F.2.1]
              have R := mkT_rep (V := VR i) (ns0 := nsR I) (ns1 := nsR J4) (s := s) (f := d) (n0 := r) (x := sE I (5 * m + (sz - 1))) h 0 h (by omega) (by omega) (Nat.zero_le _) hpI (by
                rw [pd d (Nat.le_refl _), sd d (Nat.le_refl _)]
                exact n4) (fun x hx cx => by
                rw [pd d (Nat.le_refl _)] at cx
                exact o4 x (VR_lt hi hx) cx)
              show repP s (0 + d) (sE I (5 * m + (sz - 1))) h 0 T2 = _
              rw [Nat.zero_add, hT2]
              exact R.symm
            intro v6 e6 i6
            subst e6
            refine ⟨by omega, ?_⟩
            intro v7 e7 i7
            rw [c4, hsz, wrn (sz - 1) (by omega) (by omega)] at e7
            subst e7
            rw [show ((sz - 1 : Nat) : Int) + 1 = ((sz - 1 + 1 : Nat) : Int) by omega]
            have cn4 : cnOK J4 := fun x hx => by rw [c4]; exact t1 x hx
            refine c_rtakeOut (s := sz) (k := sz - 1) (dr := sz - 1 + 1) mv (by rw [c4, hsz]) (by omega) (by omega) (by omega) ?_
            intro J5 x1 x2 x3 x4 x5
            have fp4 := fpT_ns (ns := nsR I) (ns' := nsR J4) k4
            have pt4 := pthT_ns (ns := nsR I) (ns' := nsR J4) k4 s r
            have w4 : wfT (VR i) (nsR J4) h r := wfT_ns k4 l4 h r t3
            have hp4 : PthOK (VR i) (nsR J4) s h r := ⟨w4, by rw [fp4]; exact t4, fun j hj => by rw [pt4, l4]; exact u11 j hj⟩
            have hD : InvD (VR i) (nsR J4) (nsR J5) s h r h [] := by
              refine invD_start hp4 (by rw [pt4, l4, pm, sb]; show _ < (rks I m).length; omega) ?_ (fun x hx cx => ?_)
              · rw [pt4, pm, sb]
                show (rks J5 m, rcs J5 m) = _
                rw [x4, x5]
                rfl
              · rw [pt4, pm] at cx
                exact nsR_off x2 cn4 (VR_lt hi hx) cx
            have cn5 : cnOK J5 := by
              intro x hx
              by_cases c : x = m
              · subst c; rw [x3]; omega
              · rw [x2.2.2 x c]; exact cn4 x hx
            have r5 : ∀ c, c ≠ 212 → c ≠ 243 → c ≠ 244 → c ≠ 245 → c ≠ 246 → c ≠ 251 → c ≠ 252 → J5 c = I c := fun c a0 a3 a4 a5 a6 a8 a9 => by rw [x1 c a3 a4 a5 a6, fr4 c a0 a4 a5 a8 a9]
            have r53 : ∀ c, c ≠ 243 → c ≠ 244 → c ≠ 245 → c ≠ 246 → J5 c = J3 c := fun c a3 a4 a5 a6 => by rw [x1 c a3 a4 a5 a6, y1 c a4 a5]
            refine c_rmend (I := I) (ns0 := nsR J4) (s := s) hi (by omega) hp4 (fun x hx => by rw [l4]; rw [fp4] at hx; exact h4 x hx) (fun x hx hne => by rw [l4]; rw [fp4] at hx; exact h2 x hx hne) (fun z => by rw [l4]; exact h1 z) (okO_s (okF_1 (inRn (by omega)) 1)) (okO_s (okF_1 (inRn (by omega)) 1)) (okO_s (okF_1 (inRn (by omega)) 1)) (okO_s (okF_1 (inRn (by omega)) 1)) hD cn5 (by rw [rd_of (r5 _ (by omega) (by omega) (by omega) (by omega) (by omega) (by omega) (by omega)), t2]) (by rw [rd_of (r53 _ (by omega) (by omega) (by omega) (by omega)), d3, lh]) (fun j hj => by rw [rd_of (r53 _ (by omega) (by omega) (by omega) (by omega)), (G4 j (by omega)).1, pt4, ps j hj]) (fun j hj => by rw [rd_of (r53 _ (by omega) (by omega) (by omega) (by omega)), (G4 j (by omega)).2, sa j hj]) (fun _ => by rw [pt4, pm, x3]; omega) (fun x hx => by rw [rd_of (r5 _ (by omega) (by omega) (by omega) (by omega) (by omega) (by omega) (by omega)), fp4]; exact t5 x hx) ?_ ?_
            · refine ⟨fun c a0 a1 a2 a3 a4 a5 a6 a7 a8 a9 => r5 c a0 a3 a4 a5 a6 a8 a9, fun k _ kb => by rw [rd_of (r53 _ (by omega) (by omega) (by omega) (by omega)), fk3 k kb], fun j _ => rd_of (r5 _ (by omega) (by omega) (by omega) (by omega) (by omega) (by omega) (by omega)) j, fun x hx hv => ?_⟩
              have ca : x ≠ m := fun z => hv (z ▸ mV)
              have cb : x ≠ pthT (nsR I) (tJ I1) r d := fun z => hv (z ▸ nV)
              rw [nsR_off x2 cn4 hx ca, o4 x hx cb, rd_of (r5 _ (by omega) (by omega) (by omega) (by omega) (by omega) (by omega) (by omega))]
              exact ⟨rfl, rfl⟩
            · intro J' h' r' hF hR hE
              refine doneD J' h' r' s F.1 F.2.2.2 hF hR ?_
              rw [hE, R1]
          · have g0 : g ≠ 0 := fun c => z3 (hk1 c)
            obtain ⟨g', rfl⟩ : ∃ g', g = g' + 1 := ⟨g - 1, by omega⟩
            have slen : (nsR I m).1.length = sz := by show (rks I m).length = sz; rw [rks_len, hsz, Int.toNat_natCast]
            obtain ⟨c, hck, cp, wc, ec⟩ := kid_of (k := sz) wm (by omega)
            have rk := (rcs_get (I := I) (n := m) (k := sz) hck).1
            rw [wrn (6 * m + sz) (by omega) (by omega), Int.toNat_natCast, r3, rk]
            refine ⟨by omega, ?_⟩
            intro v5 e5 _
            obtain ⟨c', hcc⟩ : ∃ c' : Nat, c = (c' : Int) := ⟨c.toNat, by omega⟩
            subst hcc
            subst e5
            rw [Int.toNat_natCast] at wc
            refine ih g' (by omega) (l + 1) c' J3 m2 m3 o2 o3 (by omega) (by omega) fr3 fk3 d3 G4 G5 G6 ?_ wc
            show c' = ((nsR I (pthT (nsR I) (tJ J3) r (l + 1))).2[tJ J3 (l + 1)]?.getD 0).toNat
            rw [ep (l + 1) (Nat.le_refl _), ← hm, esl, hck]; rfl
      have wn' := wn
      obtain ⟨g, hg'⟩ : ∃ g, h - d = g + 1 := ⟨h - d - 1, by omega⟩
      rw [hg'] at wn'
      obtain ⟨c, hck, cp, wc, ec⟩ := kid_of wn' (hs1 d (Nat.le_refl _))
      have rk := (rcs_get (I := I) hck).1
      rw [rk] at e5
      obtain ⟨c', hcc⟩ : ∃ c' : Nat, c = (c' : Int) := ⟨c.toNat, by omega⟩
      subst hcc
      subst e5
      subst e4
      rw [Int.toNat_natCast] at wc ec
      exact down g d c' I1 _ _ (okO_s (okF_1 i2 1)) (okO_s (okF_1 i3 1)) (by omega) (Nat.le_refl _) f1 f2 f3 (fun j hj => ⟨(f5 j hj).1, (f5 j hj).2.1⟩) (fun _ _ => rfl) (fun j h1 h2 => absurd h2 (by omega)) ec.symm wc
  · subst fx
    subst fd
    refine ⟨fun _ => ?_, fun z => absurd rfl z⟩
    have hnf : ∀ j, j ≤ d → hit (atE I) (rks I (pthT (nsR I) (tJ I1) r j)) = false := by
      intro j hj
      by_cases c : j = d
      · subst c; exact fh
      · exact f6 j (by omega)
    have fnd : fnT (atE I) d T2 = false := by
      rw [hT2]
      exact nf_of t3 (fun j hj => (f5 j hj).2.2) hnf
    refine hK I1 ⟨fun c a0 _ _ _ _ _ _ _ a8 a9 => f1 c a0 a8 a9, fun k _ hk => f2 k hk, fun j _ => rd_of (f1 _ (by omega) (by omega) (by omega)) j, fun m _ _ => ⟨by rw [n1], rd_of (f1 _ (by omega) (by omega) (by omega)) m⟩⟩ ?_
    unfold cutT
    rw [if_neg (by rw [fnd]; decide)]
    exact ⟨r, ⟨c1, by rw [rd_of (f1 _ (by omega) (by omega) (by omega))]; exact t2, by rw [n1]; exact t3, by rw [n1]; exact t4, fun m hm => by rw [n1, rd_of (f1 _ (by omega) (by omega) (by omega))]; exact t5 m hm⟩, by rw [n1]; exact hT2⟩
