/-! THE CLASS: splitting upwards -/
def ran (n : Nat) : List Int := (List.range n).map (fun k : Nat => (k : Int))
theorem ran_mem {n : Nat} {x : Int} (h : x ∈ ran n) : 0 ≤ x ∧ x < n := by
  unfold ran at h
  simp only [List.mem_map, List.mem_range] at h
  obtain ⟨k, hk, rfl⟩ := h
  omega
theorem ran_nd (n : Nat) : (ran n).Nodup := by
  unfold ran
  refine List.Pairwise.map _ ?_ List.nodup_range
  intro a b h
  omega
theorem ran_len (n : Nat) : (ran n).length = n := by simp [ran]
def fpI {α : Type} (ns : Nat → List α × List Int) (h r : Nat) : List Int := (fpT ns h r).map (fun n : Nat => (n : Int))
theorem spn_len {I : Mm} {B : Nat} : (spn I B).length = (rd I (B + 2) 7).toNat := seg_len _ _ _
/-- the last of the free nodes -/
theorem spn_last {I : Mm} {B c : Nat} (hc : rd I (B + 2) 7 = (c : Int) + 1) : spn I B = seg (rd I (B + 9)) 0 c ++ [rd I (B + 9) c] := by
  unfold spn
  rw [hc, show ((c : Int) + 1).toNat = c + 1 by omega, seg_succ, Nat.zero_add]
theorem nsC_eq {I J : Mm} {B m : Nat} {P : Nat → Prop} (h : ndEq I J B P) (hm : m < 348) (hp : P m) : nsC J B m = nsC I B m := by
  unfold nsC
  rw [(h m hm hp).1, (h m hm hp).2.1]
set_option maxHeartbeats 4000000 in
theorem c_split {B d r : Nat} {ns0 : Nat → List Int × List Int} {s : Nat → Nat} {e : Int} {I : Mm} {K : Mm → Prop} (hB : isX B) (hp : PthOK (fun m => m < 348) ns0 s d r) (h4 : ∀ m ∈ fpT ns0 d r, (ns0 m).1.length ≤ 4) (hd : d ≤ 11) (hsz : szOK I B) (hI : InvA (fun m => m < 348) ns0 (nsC I B) s e d r d []) (hroot : rd I (B + 2) 8 = r) (hend : rd I (B + 2) 11 = d)
    (hpn : ∀ j, j ≤ d → rd I (B + 10) j = pthT ns0 s r j) (hps : ∀ j, j ≤ d → rd I (B + 11) j = s j) (hsp : (d : Int) + 2 ≤ rd I (B + 2) 7) (hperm : (fpI ns0 d r ++ spn I B).Perm (ran 348))
    (hK : ∀ (J : Mm) (h' r' : Nat), (∀ c, c ≠ B + 2 → c ≠ B + 6 → c ≠ B + 7 → c ≠ B + 8 → J c = I c) → (∀ k, k ≠ 7 → k ≠ 8 → rd J (B + 2) k = rd I (B + 2) k) → szOK J B → rd J (B + 2) 8 = r' → 0 ≤ rd J (B + 2) 7 → wfT (fun m => m < 348) (nsC J B) h' r' → (⟨h', mkT (nsC J B) h' r'⟩ : TS Int) = topT d (insP s e d 0 (mkT ns0 d r)) → (fpI (nsC J B) h' r' ++ spn J B).Perm (ran 348) → K J) : CallV 75 [.inr (2, B, 2)] I K := by
  have fpv : ∀ m ∈ fpT ns0 d r, m < 348 := fun m hm => wfT_V hp.1 m hm
  have loop : ∀ (i : Nat) (J : Mm) (fr : List Nat) (m2 m3 m4 : Option AV), okO m2 → okO m3 → okO m4 → i ≤ d → InvA (fun m => m < 348) ns0 (nsC J B) s e d r i fr → szOK J B → rd J (B + 2) 8 = r → (∀ c, c ≠ B + 2 → c ≠ B + 6 → c ≠ B + 7 → c ≠ B + 8 → J c = I c) → (∀ k, k ≠ 7 → rd J (B + 2) k = rd I (B + 2) k) → (i : Int) + 2 ≤ rd J (B + 2) 7 → (fpI ns0 d r ++ (fr.map (fun n : Nat => (n : Int)) ++ spn J B)).Perm (ran 348) → GoA 75 5 [some (.inr (2, B, 2)), some (.inl (1, (i : Int))), m2, m3, m4] [] J (rV K) := by
    intro lv
    induction lv using Nat.strongRecOn with
    | ind lv ih =>
      intro J fr m2 m3 m4 h2 h3 h4' hi hA hsz' hroot' hf1 hf2 hsp' hpm
      have hnd : (fpI ns0 d r ++ (fr.map (fun n : Nat => (n : Int)) ++ spn J B)).Nodup := hpm.nodup_iff.mpr (ran_nd 348)
      have hn1 := List.nodup_append.mp hnd
      have hn2 := List.nodup_append.mp hn1.2.1
      have hrng : ∀ x : Int, x ∈ fr.map (fun n : Nat => (n : Int)) ++ spn J B → 0 ≤ x ∧ x < 348 := fun x hx => by
        have := ran_mem (hpm.mem_iff.mp (List.mem_append_right _ hx)); omega
      have hfrn : fr.Nodup := by
        have := hn2.1
        exact List.Pairwise.of_map (S := (· ≠ ·)) (fun n : Nat => (n : Int)) (fun a b h z => h (by rw [z])) this
      have hfr : ∀ m ∈ fr, m ∉ fpT ns0 d r := by
        intro m hm hm'
        exact hn1.2.2 (m : Int) (List.mem_map.mpr ⟨m, hm', rfl⟩) (m : Int) (List.mem_append_left _ (List.mem_map.mpr ⟨m, hm, rfl⟩)) rfl
      have hpath : ∀ j, j ≤ d → pthT ns0 s r j ∈ fpT ns0 d r := fun j hj => fp_up hp j hj _ (fpT_self _ _ _)
      have e10 : ∀ j, j ≤ d → rd J (B + 10) j = pthT ns0 s r j := fun j hj => by rw [rd_of (hf1 _ (by omega) (by omega) (by omega) (by omega)) j, hpn j hj]
      have e11 : ∀ j, j ≤ d → rd J (B + 11) j = s j := fun j hj => by rw [rd_of (hf1 _ (by omega) (by omega) (by omega) (by omega)) j, hps j hj]
      refine b_split_5 hB (inRn (by omega)) h2 h3 h4' ⟨fun z => absurd z (by omega), fun _ => ⟨by omega, ?_⟩⟩
      rw [Int.toNat_natCast, e10 _ hi, Int.toNat_natCast]
      have nv : pthT ns0 s r lv < 348 := fpv _ (hpath _ hi)
      have szn := hsz' _ nv
      refine ⟨by omega, fun c4 => ?_, fun c5 => ⟨by omega, ?_⟩⟩
      · -- nothing more to split
        have hl : (nsC J B (pthT ns0 s r lv)).1.length ≤ 4 := by
          show (tks J B _).length ≤ 4
          rw [tks_len]; omega
        obtain ⟨a1, a2⟩ := invA_top hp h4 hfr _ hi hA hl
        obtain ⟨b1, b2, b3, b4⟩ := a1
        rw [Nat.sub_zero] at b2 b3 b4
        refine hK J d r hf1 (fun k k7 _ => hf2 k k7) hsz' hroot' (by omega) b3 ?_ ?_
        · have b2' : mkT (nsC J B) d r = insP s e d 0 (mkT ns0 d r) := b2
          rw [← b2', topT_4]
          rw [kyT_mk]; exact a2
        · refine List.Perm.trans ?_ hpm
          rw [← List.append_assoc]
          refine List.Perm.append_right _ ?_
          have := b4.map (fun n : Nat => (n : Int))
          rw [List.map_append] at this
          exact this
      · intro v2 ev2 _
        obtain ⟨n, hnn⟩ : ∃ n, n = pthT ns0 s r lv := ⟨_, rfl⟩
        rw [← hnn] at ev2 nv szn c5
        have s5 : rd J (B + 8) n = 5 := by omega
        subst ev2
        obtain ⟨c, hc⟩ : ∃ c : Nat, rd J (B + 2) 7 = (c : Int) + 1 := ⟨(rd J (B + 2) 7 - 1).toNat, by omega⟩
        have hspl := spn_last hc
        have hrin : rd J (B + 9) c ∈ spn J B := by rw [hspl]; simp
        have hrb := hrng _ (List.mem_append_right _ hrin)
        obtain ⟨q, hq⟩ : ∃ q : Nat, rd J (B + 9) c = q := ⟨(rd J (B + 9) c).toNat, by omega⟩
        rw [hq] at hspl hrin hrb
        have hc348 : c < 348 := by
          have h1 : (spn J B).length = c + 1 := by rw [spn_len, hc]; omega
          have h2 := hpm.length_eq
          rw [ran_len] at h2
          simp only [List.length_append] at h2
          omega
        have hqfp : q ∉ fpT ns0 d r := fun z => hn1.2.2 (q : Int) (List.mem_map.mpr ⟨q, z, rfl⟩) (q : Int) (List.mem_append_right _ hrin) rfl
        have hqfr : q ∉ fr := fun z => hn2.2.2 (q : Int) (List.mem_map.mpr ⟨q, z, rfl⟩) (q : Int) hrin rfl
        have nin : n ∈ fpT ns0 d r := by rw [hnn]; exact hpath _ hi
        have hnq : n ≠ q := fun z => hqfp (z ▸ nin)
        refine c_takeNode hB hc hc348 hq (by omega) hsz' ?_
        intro J1 t1 t2 t3 t4 t5 t6 t7 v3 ev3 _
        subst ev3
        have sz1 : szOK J1 B := by
          intro m hm
          by_cases cm : m = q
          · subst cm; rw [t5]; omega
          · rw [(t4 m hm cm).2.2]; exact hsz' m hm
        have s51 : rd J1 (B + 8) n = 5 := by rw [(t4 n nv hnq).2.2]; exact s5
        rw [wrn (5 * n + 2) (by omega) (by omega), Int.toNat_natCast]
        refine ⟨by omega, ?_⟩
        intro v4 ev4 iv4
        have hmid : (nsC J B n).1[2]? = some v4 := by
          show (tks J B n)[2]? = _
          rw [← (t4 n nv hnq).1, tks_get (by rw [s51]; decide), ev4]
        refine c_halve hB nv (by omega) hnq s51 sz1 ?_
        intro J2 u1 u2 u3 u4 u5 u6 u7 u8
        have sz2 : szOK J2 B := by
          intro m hm
          by_cases cm : m = n
          · subst cm; rw [u3]; omega
          · by_cases cq : m = q
            · subst cq; rw [u4]; omega
            · rw [(u2 m hm ⟨cm, cq⟩).2.2]; exact sz1 m hm
        have hns1 : nsC J1 B n = nsC J B n := nsC_eq t4 nv hnq
        have g1 : nsC J2 B n = ((nsC J B n).1.take 2, (nsC J B n).2.take 3) := by
          rw [← hns1]; show (tks J2 B n, tcs J2 B n) = _; rw [u5, u6]; rfl
        have g2 : nsC J2 B q = ((nsC J B n).1.drop 3, (nsC J B n).2.drop 3) := by
          rw [← hns1]; show (tks J2 B q, tcs J2 B q) = _; rw [u7, u8]; rfl
        have g3 : ∀ m, m < 348 → m ≠ n → m ≠ q → nsC J2 B m = nsC J B m := by
          intro m hm c1 c2
          rw [nsC_eq u2 hm ⟨c1, c2⟩, nsC_eq t4 hm c2]
        have f21 : ∀ c, c ≠ B + 2 → c ≠ B + 6 → c ≠ B + 7 → c ≠ B + 8 → J2 c = I c := fun c c2 c6 c7 c8 => by
          rw [u1 c c6 c7 c8, t1 c c2 c7 c8, hf1 c c2 c6 c7 c8]
        have f22 : ∀ k, rd J2 (B + 2) k = rd J1 (B + 2) k := fun k => rd_of (u1 _ (by omega) (by omega) (by omega)) k
        have l5 : (nsC J B n).1.length = 5 := by show (tks J B n).length = 5; rw [tks_len, s5]; rfl
        have sp2 : spn J2 B = seg (rd J (B + 9)) 0 c := by
          unfold spn
          rw [f22, t3, Int.toNat_natCast]
          exact seg_congr (fun k _ => by rw [rd_of (u1 _ (by omega) (by omega) (by omega)), rd_of (t1 _ (by omega) (by omega) (by omega))])
        by_cases c0 : lv = 0
        · subst c0
          refine ⟨fun _ => ?_, fun z => absurd (Int.le_refl 0) z⟩
          have hc1 : 1 ≤ c := by omega
          obtain ⟨c', rfl⟩ : ∃ c', c = c' + 1 := ⟨c - 1, by omega⟩
          have hspl2 : seg (rd J (B + 9)) 0 (c' + 1) = seg (rd J (B + 9)) 0 c' ++ [rd J (B + 9) c'] := by rw [seg_succ, Nat.zero_add]
          rw [hspl2] at hspl
          have hpin : rd J (B + 9) c' ∈ spn J B := by rw [hspl]; simp
          have hpb := hrng _ (List.mem_append_right _ hpin)
          obtain ⟨p, hpq⟩ : ∃ p : Nat, rd J (B + 9) c' = p := ⟨(rd J (B + 9) c').toNat, by omega⟩
          rw [hpq] at hspl hpin hpb
          have hpfp : p ∉ fpT ns0 d r := fun z => hn1.2.2 (p : Int) (List.mem_map.mpr ⟨p, z, rfl⟩) (p : Int) (List.mem_append_right _ hpin) rfl
          have hpfr : p ∉ fr := fun z => hn2.2.2 (p : Int) (List.mem_map.mpr ⟨p, z, rfl⟩) (p : Int) hpin rfl
          have hqp : q ≠ p := by
            have := hn2.2.1
            rw [hspl] at this
            intro z
            subst z
            have := (List.nodup_append.mp this).2.2 (q : Int) (by simp) (q : Int) (by simp)
            exact this rfl
          have hnr : n = r := hnn
          refine c_takeNode hB (c := c') (r := p) (by rw [f22, t3]; omega) (by omega) (by rw [rd_of (u1 _ (by omega) (by omega) (by omega)), rd_of (t1 _ (by omega) (by omega) (by omega)), hpq]) (by omega) sz2 ?_
          intro J3 w1 w2 w3 w4 w5 w6 w7 I4 eI4
          have r8 : rd I4 (B + 2) 8 = p := by rw [eI4, rd_wt_s _ _ _ (inRn (by omega))]
          rw [r8, wrn (6 * p) (by omega) (by omega), Int.toNat_natCast]
          refine ⟨by omega, ?_⟩
          intro I5 eI5
          have r85 : rd I5 (B + 2) 8 = p := by rw [eI5, rd_wt_a _ _ _ _ (by omega), r8]
          rw [r85]
          have n5 : ∀ m, m ≠ p → tks I5 B m = tks J3 B m ∧ tcs I5 B m = tcs J3 B m ∧ rd I5 (B + 8) m = rd J3 (B + 8) m := by
            intro m cm
            have e8 : rd I5 (B + 8) m = rd J3 (B + 8) m := by rw [eI5, rd_wt_a _ _ _ _ (by omega), eI4, rd_wt_a _ _ _ _ (by omega)]
            refine ⟨?_, ?_, e8⟩
            · unfold tks
              rw [e8]
              exact seg_congr (fun k _ => by rw [eI5, rd_wt_a _ _ _ _ (by omega), eI4, rd_wt_a _ _ _ _ (by omega)])
            · unfold tcs
              rw [e8]
              by_cases hm : m < 348
              · refine seg_congr (fun k hk => ?_)
                have b5 : rd J3 (B + 8) m ≤ 5 := by
                  rw [(w4 m hm cm).2.2]; exact (sz2 m hm).2
                rw [eI5, rd_wt_k _ _ _ _ (by omega), eI4, rd_wt_a _ _ _ _ (by omega)]
              · refine seg_congr (fun k hk => ?_)
                rw [eI5, rd_wt_k _ _ _ _ (by omega), eI4, rd_wt_a _ _ _ _ (by omega)]
          have p8 : rd I5 (B + 8) p = 0 := by rw [eI5, rd_wt_a _ _ _ _ (by omega), eI4, rd_wt_a _ _ _ _ (by omega), w5]
          have ptk : tks I5 B p = [] := by unfold tks; rw [p8]; rfl
          have ptc : tcs I5 B p = [(n : Int)] := by
            unfold tcs
            rw [p8]
            show [rd I5 (B + 7) (6 * p)] = _
            rw [eI5, rd_wt_s _ _ _ (inRn (by omega))]
          have sz5 : szOK I5 B := by
            intro m hm
            by_cases cm : m = p
            · subst cm; rw [p8]; omega
            · rw [(n5 m cm).2.2, (w4 m hm cm).2.2]; exact sz2 m hm
          refine c_putInto (k := 0) (s := 0) hB (by omega) p8 (by omega) (by omega) iv4 (inRn (by omega)) sz5 ?_
          intro I6 x1 x2 x3 x4 x5 v1 ev1 _
          rw [show wr (((0 : Nat) : Int) + (-1)) = -1 from by rw [wrx (by omega) (by omega)]; rfl] at ev1
          subst ev1
          refine b_split_5 hB ⟨by omega, by omega⟩ (okO_s (okF_1 (inRn (by omega)) 1)) (okO_s (okF_1 (inRn (by omega)) 1)) (okO_s (okF_1 iv4 1)) ⟨fun _ => ?_, fun z => absurd (by omega) z⟩
          rw [ptk] at x4
          rw [ptc] at x5
          have h6p : nsC I6 B p = ([v4], [(r : Int), (q : Int)]) := by
            show (tks I6 B p, tcs I6 B p) = _
            rw [x4, x5, hnr]; rfl
          have h6m : ∀ m, m < 348 → m ≠ p → nsC I6 B m = nsC J2 B m := by
            intro m hm cm
            rw [nsC_eq x2 hm cm]
            show (tks I5 B m, tcs I5 B m) = _
            rw [(n5 m cm).1, (n5 m cm).2.1]
            exact nsC_eq w4 hm cm
          have hA0 := hA
          rw [hnr] at g1 g2 g3 l5 hmid
          obtain ⟨y1, y2, y3⟩ := invA_root hp hfr hfrn hA0 l5 (show q < 348 by omega) hqfr hqfp (show p < 348 by omega) hpfr hpfp hqp g1 g2 g3 h6p h6m
          have f61 : ∀ c, c ≠ B + 2 → c ≠ B + 6 → c ≠ B + 7 → c ≠ B + 8 → I6 c = I c := fun c c2 c6 c7 c8 => by
            rw [x1 c c6 c7 c8, eI5, wt_a _ _ _ _ c7, eI4, wt_a _ _ _ _ c2, w1 c c2 c7 c8, f21 c c2 c6 c7 c8]
          have r62 : ∀ k, rd I6 (B + 2) k = rd I5 (B + 2) k := fun k => rd_of (x1 _ (by omega) (by omega) (by omega)) k
          have r67 : rd I6 (B + 2) 7 = c' := by rw [r62, eI5, rd_wt_a _ _ _ _ (by omega), eI4, rd_wt_k _ _ _ _ (by omega), w3]
          refine hK I6 (d + 1) p f61 ?_ ?_ (by rw [r62, r85]) (by rw [r67]; omega) y2 ?_ ?_
          · intro k k7 k8
            rw [r62, eI5, rd_wt_a _ _ _ _ (by omega), eI4, rd_wt_k _ _ _ _ k8, w2 k k7, f22, t2 k k7, hf2 k k7]
          · intro m hm
            by_cases cm : m = p
            · subst cm; rw [x3]; omega
            · rw [(x2 m hm cm).2.2]; exact sz5 m hm
          · obtain ⟨b1, b2, b3, b4⟩ := hA0
            rw [Nat.sub_zero] at b2
            have b2' : mkT (nsC J B) d r = insP s e d 0 (mkT ns0 d r) := b2
            rw [y1, ← b2', topT_5 (x := v4)]
            · rw [kyT_mk]; exact l5
            · rw [kyT_mk]; exact hmid
          · have sp6 : spn I6 B = seg (rd J (B + 9)) 0 c' := by
              unfold spn
              rw [r67, Int.toNat_natCast]
              refine seg_congr (fun k _ => ?_)
              rw [rd_of (x1 _ (by omega) (by omega) (by omega)), eI5, rd_wt_a _ _ _ _ (by omega), eI4, rd_wt_a _ _ _ _ (by omega), rd_of (w1 _ (by omega) (by omega) (by omega)), rd_of (u1 _ (by omega) (by omega) (by omega)), rd_of (t1 _ (by omega) (by omega) (by omega))]
            refine List.Perm.trans ?_ hpm
            have y3' := y3.map (fun n : Nat => (n : Int))
            rw [sp6, hspl]
            refine (y3'.append_right _).trans ?_
            simp only [List.map_append, List.map_cons, List.map_nil, List.append_assoc]
            refine List.Perm.append_left _ (List.Perm.append_left _ ?_)
            refine List.perm_append_comm.trans ?_
            refine List.Perm.append_left _ ?_
            exact List.Perm.swap _ _ _
        · obtain ⟨i, rfl⟩ : ∃ i, lv = i + 1 := ⟨lv - 1, by omega⟩
          refine ⟨fun z => absurd z (by omega), fun _ => ?_⟩
          rw [wrn i (by omega) (by omega), Int.toNat_natCast]
          refine ⟨by omega, by omega, ?_⟩
          have e10' : rd J2 (B + 10) i = pthT ns0 s r i := by rw [rd_of (f21 _ (by omega) (by omega) (by omega) (by omega)) i, hpn i (by omega)]
          have e11' : rd J2 (B + 11) i = s i := by rw [rd_of (f21 _ (by omega) (by omega) (by omega) (by omega)) i, hps i (by omega)]
          rw [e10', e11']
          obtain ⟨o1, o2⟩ := invA_off hp (i := i) (by omega) hfr hA.1
          have pin := hpath i (by omega)
          have pv := fpv _ pin
          have hpn' : pthT ns0 s r i ≠ n := by rw [hnn]; exact (pth_off hp (by omega) hi).1
          have hpq' : pthT ns0 s r i ≠ q := fun z => hqfp (z ▸ pin)
          have l4 : (tks J B (pthT ns0 s r i)).length ≤ 4 := by
            have : (nsC J B (pthT ns0 s r i)).1.length ≤ 4 := by rw [o1]; exact h4 _ pin
            exact this
          rw [tks_len] at l4
          have z8 : rd J2 (B + 8) (pthT ns0 s r i) = rd J (B + 8) (pthT ns0 s r i) := by rw [(u2 _ pv ⟨hpn', hpq'⟩).2.2, (t4 _ pv hpq').2.2]
          have zb := hsz' _ pv
          obtain ⟨sz, hszp⟩ : ∃ sz : Nat, rd J (B + 8) (pthT ns0 s r i) = sz := ⟨(rd J (B + 8) (pthT ns0 s r i)).toNat, by omega⟩
          have sle : s i ≤ sz := by
            have := hp.2.2 i (by omega)
            rw [← o1] at this
            have h' : s i ≤ (tks J B (pthT ns0 s r i)).length := this
            rw [tks_len, hszp] at h'
            omega
          refine c_putInto (k := s i) (s := sz) hB pv (by rw [z8, hszp]) (by rw [hszp] at l4; omega) sle iv4 (inRn (by omega)) sz2 ?_
          intro J3 x1 x2 x3 x4 x5 v1 ev1 _
          rw [wrn i (by omega) (by omega)] at ev1
          subst ev1
          have h6p : nsC J3 B (pthT ns0 s r i) = (insL (nsC J2 B (pthT ns0 s r i)).1 (s i) v4, insL (nsC J2 B (pthT ns0 s r i)).2 (s i + 1) (q : Int)) := by
            show (tks J3 B _, tcs J3 B _) = _
            rw [x4, x5]; rfl
          have hA2 := invA_split hp (show i < d by omega) hfr hfrn hA (by rw [← hnn]; exact l5) (by rw [← hnn]; exact hmid) (show q < 348 by omega) hqfr hqfp (by rw [← hnn]; exact g1) (by rw [← hnn]; exact g2) (by rw [← hnn]; exact g3) h6p (fun m hm cm => nsC_eq x2 hm cm)
          have r32 : ∀ k, rd J3 (B + 2) k = rd J2 (B + 2) k := fun k => rd_of (x1 _ (by omega) (by omega) (by omega)) k
          refine ih i (by omega) J3 (fr ++ [q]) _ _ _ (okO_s (okF_1 (inRn (by omega)) 1)) (okO_s (okF_1 (inRn (by omega)) 1)) (okO_s (okF_1 iv4 1)) (by omega) hA2 ?_ ?_ ?_ ?_ ?_ ?_
          · intro m hm
            by_cases cm : m = pthT ns0 s r i
            · subst cm; rw [x3]; rw [hszp] at l4; omega
            · rw [(x2 m hm cm).2.2]; exact sz2 m hm
          · rw [r32, f22, t2 8 (by omega), hroot']
          · intro c c2 c6 c7 c8
            rw [x1 c c6 c7 c8, f21 c c2 c6 c7 c8]
          · intro k k7
            rw [r32, f22, t2 k k7, hf2 k k7]
          · rw [r32, f22, t3]; omega
          · have sp3 : spn J3 B = seg (rd J (B + 9)) 0 c := by
              rw [← sp2]
              unfold spn
              rw [r32]
              exact seg_congr (fun k _ => by rw [rd_of (x1 _ (by omega) (by omega) (by omega))])
            refine List.Perm.trans ?_ hpm
            rw [sp3, hspl, List.map_append]
            refine List.Perm.append_left _ ?_
            rw [List.append_assoc]
            refine List.Perm.append_left _ ?_
            exact List.perm_append_comm
  refine callV_of rfl (b_split hB ?_)
  intro v1 e1 _
  rw [hend] at e1
  rw [e1]
  exact loop d I [] none none none okO_n okO_n okO_n (Nat.le_refl _) hI hsz hroot (fun _ _ _ _ _ => rfl) (fun _ _ => rfl) hsp hperm
