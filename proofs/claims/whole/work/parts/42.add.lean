/-! THE CLASS'S TREE as a whole -/
def spe (I : Mm) (B : Nat) : List Int := seg (rd I (B + 5)) 0 (rd I (B + 2) 2).toNat
def TrC (I : Mm) (B h r : Nat) : Prop :=
  szOK I B ∧ rd I (B + 2) 8 = r ∧ 0 ≤ rd I (B + 2) 7 ∧ 0 ≤ rd I (B + 2) 2 ∧ wfT (fun m => m < 348) (nsC I B) h r ∧
  (fpI (nsC I B) h r ++ spn I B).Perm (ran 348) ∧ (inT h (mkT (nsC I B) h r) ++ spe I B).Perm (ran 648)
/-- the depths of the entries, in order -/
def dpT {α : Type} : (h : Nat) → Int → Tr α h → List Int
  | 0, l, t => List.map (fun _ => l) t
  | h + 1, l, t => itr (t.1.map (fun _ => l)) (t.2.map (dpT h (l + 1)))
def WkC (I : Mm) (B h : Nat) (t : Tr Int h) : Prop :=
  rd I (B + 2) 14 ≠ 0 → rd I (B + 2) 15 = (inT h t).length ∧ seg (rd I (B + 12)) 0 (inT h t).length = inT h t ∧ seg (rd I (B + 13)) 0 (inT h t).length = dpT h 0 t
def TreeC (I : Mm) (B : Nat) (T : TS E) : Prop := ∃ r, TrC I B T.1 r ∧ T.2 = mapT (ent I B) T.1 (mkT (nsC I B) T.1 r) ∧ WkC I B T.1 (mkT (nsC I B) T.1 r)
theorem trC_num {I : Mm} {B h r : Nat} (hT : TrC I B h r) : ∀ m ∈ fpT (nsC I B) h r, ∀ q ∈ tks I B m, 0 ≤ q ∧ q < 648 := by
  obtain ⟨t1, t2, t3, t4, t5, t6, t7⟩ := hT
  intro m hm q hq
  exact ran_mem (t7.mem_iff.mp (List.mem_append_left _ (key_in t5 hm hq)))
theorem trC_nd {I : Mm} {B h r : Nat} (hT : TrC I B h r) : (fpT (nsC I B) h r).Nodup := by
  have := hT.2.2.2.2.2.1.nodup_iff.mpr (ran_nd 348)
  exact List.Pairwise.of_map (S := (· ≠ ·)) (fun n : Nat => (n : Int)) (fun a b h z => h (by rw [z])) (List.nodup_append.mp this).1
theorem trC_c7 {I : Mm} {B h r : Nat} (hT : TrC I B h r) : rd I (B + 2) 7 = 348 - (ndT h (mkT (nsC I B) h r) : Int) := by
  obtain ⟨t1, t2, t3, t4, t5, t6, t7⟩ := hT
  have := t6.length_eq
  rw [List.length_append, ran_len, spn_len] at this
  have h2 : (fpI (nsC I B) h r).length = ndT h (mkT (nsC I B) h r) := by unfold fpI; rw [List.length_map, fpT_nd]
  omega
theorem trC_c2 {I : Mm} {B h r : Nat} (hT : TrC I B h r) : rd I (B + 2) 2 = 648 - ((inT h (mkT (nsC I B) h r)).length : Int) := by
  obtain ⟨t1, t2, t3, t4, t5, t6, t7⟩ := hT
  have := t7.length_eq
  have h2 : (spe I B).length = (rd I (B + 2) 2).toNat := seg_len _ _ _
  rw [List.length_append, ran_len, h2] at this
  omega
theorem ndT_map {α β : Type} (f : α → β) : ∀ {h : Nat} (t : Tr α h), ndT h (mapT f h t) = ndT h t
  | 0, _ => rfl
  | h + 1, t => by
    show 1 + ((t.2.map (mapT f h)).map (ndT h)).sum = 1 + (t.2.map (ndT h)).sum
    rw [List.map_map]
    congr 2
    exact List.map_congr_left (fun u _ => ndT_map f u)
theorem mkE {I : Mm} {B h r : Nat} : mapT (ent I B) h (mkT (nsC I B) h r) = mkT (fun m => (kys I B m, tcs I B m)) h r := (mkT_map (ent I B) (nsC I B) h r).symm
theorem wfE {I : Mm} {B h r : Nat} (hw : wfT (fun m => m < 348) (nsC I B) h r) : wfT (fun m => m < 348) (fun m => (kys I B m, tcs I B m)) h r :=
  wfT_ns (ns := nsC I B) (ns' := fun m => (kys I B m, tcs I B m)) (fun _ => rfl) (fun m => by show (kys I B m).length = _; unfold kys; rw [List.length_map]; rfl) h r hw
theorem ent_cg {I J : Mm} {B : Nat} (h : J (B + 4) = I (B + 4)) : ent J B = ent I B := by
  funext q
  unfold ent
  rw [show rd J (B + 4) = rd I (B + 4) from funext (fun k => rd_of h k)]
theorem nsC_cg {I J : Mm} {B : Nat} (h6 : J (B + 6) = I (B + 6)) (h7 : J (B + 7) = I (B + 7)) (h8 : J (B + 8) = I (B + 8)) : nsC J B = nsC I B := by
  funext m
  unfold nsC tks tcs
  rw [show rd J (B + 6) = rd I (B + 6) from funext (fun k => rd_of h6 k), show rd J (B + 7) = rd I (B + 7) from funext (fun k => rd_of h7 k), rd_of h8]
theorem szOK_cg {I J : Mm} {B : Nat} (h8 : J (B + 8) = I (B + 8)) (h : szOK I B) : szOK J B := fun m hm => by rw [rd_of h8]; exact h m hm
theorem lsT_top {α : Type} {h : Nat} {t : Tr α h} (hf : fil h 0 5 t) : lsT (topT h t) = inT h t := by
  by_cases c : (kyT h t).length ≤ 4
  · rw [topT_4 c]; rfl
  · have c5 : (kyT h t).length = 5 := by have := (fil_ky hf).2; omega
    obtain ⟨x, hx⟩ : ∃ x, (kyT h t)[2]? = some x := ⟨_, List.getElem?_eq_getElem (by omega)⟩
    rw [topT_5 c5 hx, (half_in hf c5 hx).1]
    rfl
/-- a way goes on to the greatest -/
theorem ext_path {α : Type} (len : Nat → Nat) (ns : Nat → List α × List Int) (s : Nat → Nat) (r d : Nat) : ∀ h, d < h → ∃ s' : Nat → Nat, (∀ j, j ≤ d → s' j = s j) ∧ (∀ j, d < j → j < h → s' j = len (pthT ns s' r j)) ∧ s' h = len (pthT ns s' r h) - 1 := by
  have base : ∀ g, ∃ s' : Nat → Nat, (∀ j, j ≤ d → s' j = s j) ∧ (∀ j, d < j → j ≤ d + g → s' j = len (pthT ns s' r j)) := by
    intro g
    induction g with
    | zero => exact ⟨s, fun _ _ => rfl, fun j h1 h2 => absurd h2 (by omega)⟩
    | succ g ih =>
      obtain ⟨s', h1, h2⟩ := ih
      refine ⟨fun j => if j = d + (g + 1) then len (pthT ns s' r j) else s' j, fun j hj => ?_, fun j h3 h4 => ?_⟩
      · show (if j = d + (g + 1) then _ else _) = _
        rw [if_neg (by omega), h1 j hj]
      · have pc : pthT ns (fun j => if j = d + (g + 1) then len (pthT ns s' r j) else s' j) r j = pthT ns s' r j := pthT_congr j (fun i hi => by show (if i = d + (g + 1) then _ else _) = _; rw [if_neg (by omega)])
        rw [pc]
        show (if j = d + (g + 1) then _ else _) = _
        by_cases c : j = d + (g + 1)
        · rw [if_pos c]
        · rw [if_neg c, h2 j h3 (by omega)]
  intro h hd
  obtain ⟨s', h1, h2⟩ := base (h - 1 - d)
  refine ⟨fun j => if j = h then len (pthT ns s' r j) - 1 else s' j, fun j hj => ?_, fun j h3 h4 => ?_, ?_⟩
  · show (if j = h then _ else _) = _
    rw [if_neg (by omega), h1 j hj]
  · have pc : pthT ns (fun j => if j = h then len (pthT ns s' r j) - 1 else s' j) r j = pthT ns s' r j := pthT_congr j (fun i hi => by show (if i = h then _ else _) = _; rw [if_neg (by omega)])
    rw [pc]
    show (if j = h then _ else _) = _
    rw [if_neg (by omega)]
    exact h2 j h3 (by omega)
  · have pc : pthT ns (fun j => if j = h then len (pthT ns s' r j) - 1 else s' j) r h = pthT ns s' r h := pthT_congr h (fun i hi => by show (if i = h then _ else _) = _; rw [if_neg (by omega)])
    rw [pc]
    show (if h = h then _ else _) = _
    rw [if_pos rfl]
set_option maxHeartbeats 2000000 in
theorem c_add_23 {B a : Nat} {T : TS E} {I : Mm} {K : Mm → Prop} {fa : Nat} (hB : isX B) (ha : 4 * a + 4 ≤ 4) (hT : TreeC I B T) (hg : good T) (hl : (lsT T).length ≤ 647)
    (hK : ∀ I' : Mm, (∀ c, c ≠ B + 2 → c ≠ B + 4 → c ≠ B + 6 → c ≠ B + 7 → c ≠ B + 8 → c ≠ B + 10 → c ≠ B + 11 → I' c = I c) → TreeC I' B (addT (en4 (rd I (B + 24)) a) T) → K I') : CallV 66 [.inr (2, B, 2), .inr (2, B, 23), .inl (fa, (a : Int))] I K := by
  obtain ⟨h, T2⟩ := T
  obtain ⟨r, hC, hT2, hW⟩ := hT
  have hC0 : TrC I B h r := hC
  simp only at hT2 hC hW
  obtain ⟨t1, t2, t3, t4, t5, t6, t7⟩ := hC
  have hh : h ≤ 5 := ht_good hg (by omega)
  have len2 : (inT h (mkT (nsC I B) h r)).length = (lsT (⟨h, T2⟩ : TS E)).length := by
    show _ = (inT h T2).length
    rw [hT2, inT_map, List.length_map]
  have c2 := trC_c2 hC0
  have c7 := trC_c7 hC0
  have nd1 : 2 * ndT h (mkT (nsC I B) h r) ≤ (lsT (⟨h, T2⟩ : TS E)).length + 2 := by
    have := nd_good hg
    rw [hT2] at this
    simp only [ndT_map] at this
    rw [← hT2] at this
    exact this
  rw [len2] at c2
  refine callV_fl (as' := [.inr (2, B, 2), .inr (2, B, 23), .inl (1, (a : Int))]) rfl ?_
  refine callV_of rfl (b_add_23 hB (inRn (by omega)) ⟨fun z => absurd z (by omega), fun _ => ⟨fun z => absurd z (by omega), fun _ => ?_⟩⟩)
  refine c_find_23 hB ha t1 t2 t5 (trC_num hC0) (by omega) ?_
  intro d x I1 f1 f2 f3 f4 f5 f6 f7
  have wE := wfE t5
  have pE : ∀ s j, pthT (fun m => (kys I B m, tcs I B m)) s r j = pthT (nsC I B) s r j := fun s j => pthT_ns (ns := nsC I B) (ns' := fun m => (kys I B m, tcs I B m)) (fun _ => rfl) s r j
  rcases f7 with ⟨fx, fh⟩ | ⟨fx, fh, fd⟩
  · -- it is there
    subst fx
    refine ⟨fun z => absurd z (by omega), fun _ => ?_⟩
    have fnd : fnT (en4 (rd I (B + 24)) a) h T2 = true := by
      rw [hT2, mkE]
      by_cases cd : d = h
      · subst cd
        exact (fd0_of wE (fun j hj => by rw [pE]; exact (f5 j hj).2.2) (fun j hj => by rw [pE]; exact f6 j hj) (by rw [pE]; exact fh)).1
      · obtain ⟨s', hs'⟩ : ∃ s' : Nat → Nat, (∀ j, j ≤ d → s' j = sJ I1 B j) ∧ (∀ j, d < j → j < h → s' j = (kys I B (pthT (nsC I B) s' r j)).length) ∧ s' h = (kys I B (pthT (nsC I B) s' r h)).length - 1 := ext_path (fun n => (kys I B n).length) (nsC I B) (sJ I1 B) r d h (by omega)
        have pc : ∀ j, j ≤ d → pthT (nsC I B) s' r j = pthT (nsC I B) (sJ I1 B) r j := fun j hj => pthT_congr j (fun i hi => hs'.1 i (by omega))
        exact (fd1_of (s := s') (d := d) (by omega) wE (fun j hj => by rw [pE, pc j hj, hs'.1 j hj]; exact (f5 j hj).2.2) (fun j hj => by rw [pE, pc j (by omega)]; exact f6 j hj) (by rw [pE, pc d (Nat.le_refl _)]; exact fh) (fun j h1 h2 => by rw [pE]; exact hs'.2.1 j h1 h2) (by rw [pE]; exact hs'.2.2)).1
    refine hK I1 (fun c k2 _ _ _ _ k10 k11 => f1 c k2 k10 k11) ?_
    unfold addT
    rw [if_pos fnd]
    have n1 : nsC I1 B = nsC I B := nsC_cg (f1 _ (by omega) (by omega) (by omega)) (f1 _ (by omega) (by omega) (by omega)) (f1 _ (by omega) (by omega) (by omega))
    have e1 : ent I1 B = ent I B := ent_cg (f1 _ (by omega) (by omega) (by omega))
    have sp1 : spn I1 B = spn I B := by
      unfold spn
      rw [f2 7 (by omega)]
      exact seg_congr (fun k _ => rd_of (f1 _ (by omega) (by omega) (by omega)) _)
    have sp2 : spe I1 B = spe I B := by
      unfold spe
      rw [f2 2 (by omega)]
      exact seg_congr (fun k _ => rd_of (f1 _ (by omega) (by omega) (by omega)) _)
    refine ⟨r, ⟨szOK_cg (f1 _ (by omega) (by omega) (by omega)) t1, by rw [f2 8 (by omega)]; exact t2, by rw [f2 7 (by omega)]; exact t3, by rw [f2 2 (by omega)]; exact t4, by rw [n1]; exact t5, by rw [n1, sp1]; exact t6, by rw [n1, sp2]; exact t7⟩, by rw [e1, n1]; exact hT2, ?_⟩
    intro hw
    rw [f2 14 (by omega)] at hw
    rw [n1, f2 15 (by omega)]
    have := hW hw
    refine ⟨this.1, ?_, ?_⟩
    · refine Eq.trans (seg_congr (fun k _ => ?_)) this.2.1
      exact rd_of (f1 _ (by omega) (by omega) (by omega)) _
    · refine Eq.trans (seg_congr (fun k _ => ?_)) this.2.2
      exact rd_of (f1 _ (by omega) (by omega) (by omega)) _
  · subst fx
    subst fd
    refine ⟨fun _ => ?_, fun z => absurd rfl z⟩
    have hnf : ∀ j, j ≤ d → hit (en4 (rd I (B + 24)) a) (kys I B (pthT (nsC I B) (sJ I1 B) r j)) = false := by
      intro j hj
      by_cases c : j = d
      · subst c; exact fh
      · exact f6 j (by omega)
    have fnd : fnT (en4 (rd I (B + 24)) a) d T2 = false := by
      rw [hT2, mkE]
      exact nf_of wE (fun j hj => by rw [pE]; exact (f5 j hj).2.2) (fun j hj => by rw [pE]; exact hnf j hj)
    have hsl : ∀ j, j ≤ d → sJ I1 B j = slT (en4 (rd I (B + 24)) a) d T2 j := by
      rw [hT2, mkE]
      exact sl_of wE (fun j hj => by rw [pE]; exact (f5 j hj).2.2)
    intro I2 eI2
    have e2 : rd I2 (B + 2) 2 = rd I (B + 2) 2 - 1 := by
      rw [eI2, rd_wt_s _ _ _ ⟨by rw [f2 2 (by omega)]; omega, by rw [f2 2 (by omega)]; omega⟩, f2 2 (by omega)]
    obtain ⟨c, hc⟩ : ∃ c : Nat, rd I (B + 2) 2 = (c : Int) + 1 := ⟨(rd I (B + 2) 2 - 1).toNat, by omega⟩
    have hc648 : c < 648 := by omega
    rw [e2, show rd I (B + 2) 2 - 1 = (c : Int) by omega, Int.toNat_natCast]
    refine ⟨by omega, ?_⟩
    intro v3 ev3 iv3
    have r5 : rd I2 (B + 5) c = rd I (B + 5) c := by rw [eI2, rd_wt_a _ _ _ _ (by omega), rd_of (f1 _ (by omega) (by omega) (by omega))]
    rw [r5] at ev3
    have hspe : spe I B = seg (rd I (B + 5)) 0 c ++ [rd I (B + 5) c] := by
      unfold spe
      rw [hc, show ((c : Int) + 1).toNat = c + 1 by omega, seg_succ, Nat.zero_add]
    have nd7 := t7.nodup_iff.mpr (ran_nd 648)
    have qin : rd I (B + 5) c ∈ spe I B := by rw [hspe]; simp
    have qb := ran_mem (t7.mem_iff.mp (List.mem_append_right _ qin))
    obtain ⟨q, hq⟩ : ∃ q : Nat, rd I (B + 5) c = q := ⟨(rd I (B + 5) c).toNat, by omega⟩
    rw [hq] at ev3 qin qb hspe
    subst ev3
    have qnot : (q : Int) ∉ inT d (mkT (nsC I B) d r) := fun z => (List.nodup_append.mp nd7).2.2 (q : Int) z (q : Int) qin rfl
    rw [wrn (4 * a) (by omega) (by omega), wrn (4 * q) (by omega) (by omega), Int.toNat_natCast, Int.toNat_natCast]
    refine ⟨by omega, ?_⟩
    intro I3 eI3
    have fr3 : ∀ c, c ≠ B + 2 → c ≠ B + 4 → c ≠ B + 10 → c ≠ B + 11 → I3 c = I c := by
      intro c k2 k4 k10 k11
      rw [eI3, cp_a _ _ _ _ _ _ k4, eI2, wt_a _ _ _ _ k2, f1 c k2 k10 k11]
    have r32 : ∀ k, k ≠ 2 → rd I3 (B + 2) k = rd I1 (B + 2) k := by
      intro k hk
      rw [eI3, rd_cp_a _ _ _ _ _ _ (by omega), eI2, rd_wt_k _ _ _ _ hk]
    have r310 : ∀ k, rd I3 (B + 10) k = rd I1 (B + 10) k := fun k => by rw [eI3, rd_cp_a _ _ _ _ _ _ (by omega), eI2, rd_wt_a _ _ _ _ (by omega)]
    have r311 : ∀ k, rd I3 (B + 11) k = rd I1 (B + 11) k := fun k => by rw [eI3, rd_cp_a _ _ _ _ _ _ (by omega), eI2, rd_wt_a _ _ _ _ (by omega)]
    have n3 : nsC I3 B = nsC I B := nsC_cg (fr3 _ (by omega) (by omega) (by omega) (by omega)) (fr3 _ (by omega) (by omega) (by omega) (by omega)) (fr3 _ (by omega) (by omega) (by omega) (by omega))
    have sz3 : szOK I3 B := szOK_cg (fr3 _ (by omega) (by omega) (by omega) (by omega)) t1
    have r34 : ∀ k, rd I3 (B + 4) k = if 4 * q ≤ k ∧ k < 4 * q + 4 then rd I (B + 24) (4 * a + (k - 4 * q)) else rd I (B + 4) k := by
      intro k
      rw [eI3, rd_cp, if_pos rfl]
      by_cases ck : 4 * q ≤ k ∧ k < 4 * q + 4
      · rw [if_pos ck, if_pos ck, eI2, rd_wt_a _ _ _ _ (by omega), rd_of (f1 _ (by omega) (by omega) (by omega))]
      · rw [if_neg ck, if_neg ck, eI2, rd_wt_a _ _ _ _ (by omega), rd_of (f1 _ (by omega) (by omega) (by omega))]
    have entq : ent I3 B (q : Int) = en4 (rd I (B + 24)) a := by
      unfold ent en4
      rw [Int.toNat_natCast, r34, r34, r34, r34, if_pos (by omega), if_pos (by omega), if_pos (by omega), if_pos (by omega)]
      rw [show 4 * a + (4 * q - 4 * q) = 4 * a by omega, show 4 * a + (4 * q + 1 - 4 * q) = 4 * a + 1 by omega, show 4 * a + (4 * q + 2 - 4 * q) = 4 * a + 2 by omega, show 4 * a + (4 * q + 3 - 4 * q) = 4 * a + 3 by omega]
    have ento : ∀ y : Int, 0 ≤ y → y ≠ q → ent I3 B y = ent I B y := by
      intro y y0 yq
      unfold ent en4
      rw [r34, r34, r34, r34, if_neg (by omega), if_neg (by omega), if_neg (by omega), if_neg (by omega)]
    have hT3 : mapT (ent I3 B) d (mkT (nsC I B) d r) = T2 := by
      rw [hT2]
      refine mapT_cg (fun m hm y hy => ?_)
      have yin := key_in t5 hm hy
      have yb := ran_mem (t7.mem_iff.mp (List.mem_append_left _ yin))
      exact ento y yb.1 (fun z => qnot (z ▸ yin))
    have hpk : PthOK (fun m => m < 348) (nsC I B) (sJ I1 B) d r := ⟨t5, trC_nd hC0, fun j hj => by
      rw [(f5 j hj).2.2]
      have := kc_le (en4 (rd I (B + 24)) a) (kys I B (pthT (nsC I B) (sJ I1 B) r j))
      unfold kys at this
      rw [List.length_map] at this
      exact this⟩
    have filN : fil d (rtA d) 4 (mkT (nsC I B) d r) := fil_map (f := ent I B) (by rw [← hT2]; exact hg.1)
    have h4 := fil_nodes (Nat.le_refl 4) filN
    have leafin : pthT (nsC I B) (sJ I1 B) r d ∈ fpT (nsC I B) d r := fp_up hpk d (Nat.le_refl _) _ (fpT_self _ _ _)
    have leafv : pthT (nsC I B) (sJ I1 B) r d < 348 := wfT_V t5 _ leafin
    rw [r32 11 (by omega), f3, Int.toNat_natCast, r310, r311, (f5 d (Nat.le_refl _)).1, (f5 d (Nat.le_refl _)).2.1]
    refine ⟨by omega, by omega, ?_⟩
    have l4 := h4 _ leafin
    have l4' : (tks I B (pthT (nsC I B) (sJ I1 B) r d)).length ≤ 4 := l4
    rw [tks_len] at l4'
    obtain ⟨sz, hsz⟩ : ∃ sz : Nat, rd I (B + 8) (pthT (nsC I B) (sJ I1 B) r d) = sz := ⟨(rd I (B + 8) (pthT (nsC I B) (sJ I1 B) r d)).toNat, by have := t1 _ leafv; omega⟩
    have sle : sJ I1 B d ≤ sz := by
      have := hpk.2.2 d (Nat.le_refl _)
      have h' : sJ I1 B d ≤ (tks I B (pthT (nsC I B) (sJ I1 B) r d)).length := this
      rw [tks_len, hsz] at h'
      omega
    refine c_putInto (k := sJ I1 B d) (s := sz) hB leafv (by rw [rd_of (fr3 _ (by omega) (by omega) (by omega) (by omega)), hsz]) (by rw [hsz] at l4'; omega) sle iv3 ⟨by omega, by omega⟩ sz3 ?_
    intro I4 x1 x2 x3 x4 x5
    have r42 : ∀ k, rd I4 (B + 2) k = rd I3 (B + 2) k := fun k => rd_of (x1 _ (by omega) (by omega) (by omega)) k
    have sp4 : spn I4 B = spn I B := by
      unfold spn
      rw [r42, r32 7 (by omega), f2 7 (by omega)]
      exact seg_congr (fun k _ => by rw [rd_of (x1 _ (by omega) (by omega) (by omega)), rd_of (fr3 _ (by omega) (by omega) (by omega) (by omega))])
    have hA : InvA (fun m => m < 348) (nsC I B) (nsC I4 B) (sJ I1 B) (q : Int) d r d [] := by
      refine invA_start hpk ?_ (fun m hm cm => ?_)
      · show (tks I4 B _, tcs I4 B _) = _
        rw [x4, x5]
        show (insL (nsC I3 B _).1 _ _, insL (nsC I3 B _).2 _ _) = _
        rw [n3]
      · rw [nsC_eq x2 hm cm, n3]
    refine c_split (ns0 := nsC I B) (s := sJ I1 B) (e := (q : Int)) hB hpk h4 (by omega) ?_ hA (by rw [r42, r32 8 (by omega), f2 8 (by omega), t2]) (by rw [r42, r32 11 (by omega), f3]) (fun j hj => by rw [rd_of (x1 _ (by omega) (by omega) (by omega)), r310]; exact (f5 j hj).1) (fun j hj => by rw [rd_of (x1 _ (by omega) (by omega) (by omega)), r311]; exact (f5 j hj).2.1) (by rw [r42, r32 7 (by omega), f2 7 (by omega)]; omega) (by rw [sp4]; exact t6) ?_
    · intro m hm
      by_cases cm : m = pthT (nsC I B) (sJ I1 B) r d
      · subst cm; rw [x3]; rw [hsz] at l4'; omega
      · rw [(x2 m hm cm).2.2]; exact sz3 m hm
    intro J h' r' j1 j2 j3 j4 j5 j6 j7 j8 I6 eI6
    have q6 : ∀ c, c ≠ B + 2 → I6 c = J c := fun c k2 => by rw [eI6, wt_a _ _ _ _ k2]
    have nJ : nsC I6 B = nsC J B := nsC_cg (q6 _ (by omega)) (q6 _ (by omega)) (q6 _ (by omega))
    have q62 : ∀ k, k ≠ 14 → rd I6 (B + 2) k = rd J (B + 2) k := fun k hk => by rw [eI6, rd_wt_k _ _ _ _ hk]
    have eJ : ent I6 B = ent I3 B := ent_cg (by rw [q6 _ (by omega), j1 _ (by omega) (by omega) (by omega) (by omega), x1 _ (by omega) (by omega) (by omega)])
    have spJ : spn I6 B = spn J B := by
      unfold spn
      rw [q62 7 (by omega)]
      exact seg_congr (fun k _ => rd_of (q6 _ (by omega)) _)
    have speJ : spe I6 B = seg (rd I (B + 5)) 0 c := by
      unfold spe
      rw [q62 2 (by omega), j2 2 (by omega) (by omega), r42, eI3, rd_cp_a _ _ _ _ _ _ (by omega), e2, show rd I (B + 2) 2 - 1 = (c : Int) by omega, Int.toNat_natCast]
      exact seg_congr (fun k _ => by rw [rd_of (q6 _ (by omega)), rd_of (j1 _ (by omega) (by omega) (by omega) (by omega)), rd_of (x1 _ (by omega) (by omega) (by omega)), rd_of (fr3 _ (by omega) (by omega) (by omega) (by omega))])
    have filN0 : fil d 0 4 (mkT (nsC I B) d r) := fil_mono filN (Nat.zero_le _) (Nat.le_refl _)
    have pk0 : pOK (sJ I1 B) d 0 (mkT (nsC I B) d r) := by
      refine pOK_of t5 (fun j hj => ?_)
      have e0 : (fun k => sJ I1 B (0 + k)) = sJ I1 B := funext (fun k => by rw [Nat.zero_add])
      rw [e0, Nat.zero_add]
      exact hpk.2.2 j hj
    obtain ⟨k1, A, Bl, kA, kB, -⟩ := ins_ok (lo := fun _ => True) (hi := fun _ => True) (e := (q : Int)) filN0 pk0
    have res : addT (en4 (rd I (B + 24)) a) ⟨d, T2⟩ = ⟨h', mapT (ent I6 B) h' (mkT (nsC I6 B) h' r')⟩ := by
      unfold addT
      rw [if_neg (by rw [fnd]; decide), eJ, nJ]
      show _ = mapS (ent I3 B) ⟨h', mkT (nsC J B) h' r'⟩
      rw [j7, ← topT_map, ← insP_map, hT3, entq]
      show topT d (insP (slT (en4 (rd I (B + 24)) a) d T2) (en4 (rd I (B + 24)) a) d 0 T2) = _
      rw [insP_congr (s := slT (en4 (rd I (B + 24)) a) d T2) (s' := sJ I1 B) d 0 T2 (fun j hj => by rw [Nat.zero_add]; exact (hsl j hj).symm)]
    refine hK I6 ?_ ?_
    · intro c k2 k4 k6 k7 k8 k10 k11
      rw [q6 c k2, j1 c k2 k6 k7 k8, x1 c k6 k7 k8, fr3 c k2 k4 k10 k11]
    · rw [res]
      refine ⟨r', ⟨szOK_cg (q6 _ (by omega)) j3, by rw [q62 8 (by omega)]; exact j4, by rw [q62 7 (by omega)]; exact j5, ?_, by rw [nJ]; exact j6, by rw [nJ, spJ]; exact j8, ?_⟩, rfl, ?_⟩
      · rw [q62 2 (by omega), j2 2 (by omega) (by omega), r42, eI3, rd_cp_a _ _ _ _ _ _ (by omega), e2]
        omega
      · show (inT h' (mkT (nsC I6 B) h' r') ++ spe I6 B).Perm (ran 648)
        have l1 : inT h' (mkT (nsC J B) h' r') = lsT (⟨h', mkT (nsC J B) h' r'⟩ : TS Int) := rfl
        rw [nJ, speJ, l1, j7, lsT_top (fil_mono k1 (Nat.zero_le _) (Nat.le_refl _)), kB]
        refine List.Perm.trans ?_ t7
        rw [kA, hspe, List.append_assoc, List.append_assoc]
        refine List.Perm.append_left _ ?_
        rw [List.cons_append, ← List.append_assoc]
        exact (List.perm_append_singleton (q : Int) _).symm
      · intro hw
        exfalso
        apply hw
        show rd I6 (B + 2) 14 = 0
        rw [eI6, rd_wt_s _ _ _ ⟨by omega, by omega⟩]
set_option maxHeartbeats 2000000 in
theorem c_add_20 {B a : Nat} {T : TS E} {I : Mm} {K : Mm → Prop} {fa : Nat} (hB : isX B) (ha : 4 * a + 4 ≤ 2560) (hT : TreeC I B T) (hg : good T) (hl : (lsT T).length ≤ 647)
    (hK : ∀ I' : Mm, (∀ c, c ≠ B + 2 → c ≠ B + 4 → c ≠ B + 6 → c ≠ B + 7 → c ≠ B + 8 → c ≠ B + 10 → c ≠ B + 11 → I' c = I c) → TreeC I' B (addT (en4 (rd I (B + 21)) a) T) → K I') : CallV 66 [.inr (2, B, 2), .inr (2, B, 20), .inl (fa, (a : Int))] I K := by
  obtain ⟨h, T2⟩ := T
  obtain ⟨r, hC, hT2, hW⟩ := hT
  have hC0 : TrC I B h r := hC
  simp only at hT2 hC hW
  obtain ⟨t1, t2, t3, t4, t5, t6, t7⟩ := hC
  have hh : h ≤ 5 := ht_good hg (by omega)
  have len2 : (inT h (mkT (nsC I B) h r)).length = (lsT (⟨h, T2⟩ : TS E)).length := by
    show _ = (inT h T2).length
    rw [hT2, inT_map, List.length_map]
  have c2 := trC_c2 hC0
  have c7 := trC_c7 hC0
  have nd1 : 2 * ndT h (mkT (nsC I B) h r) ≤ (lsT (⟨h, T2⟩ : TS E)).length + 2 := by
    have := nd_good hg
    rw [hT2] at this
    simp only [ndT_map] at this
    rw [← hT2] at this
    exact this
  rw [len2] at c2
  refine callV_fl (as' := [.inr (2, B, 2), .inr (2, B, 20), .inl (1, (a : Int))]) rfl ?_
  refine callV_of rfl (b_add_20 hB (inRn (by omega)) ⟨fun z => absurd z (by omega), fun _ => ⟨fun z => absurd z (by omega), fun _ => ?_⟩⟩)
  refine c_find_20 hB ha t1 t2 t5 (trC_num hC0) (by omega) ?_
  intro d x I1 f1 f2 f3 f4 f5 f6 f7
  have wE := wfE t5
  have pE : ∀ s j, pthT (fun m => (kys I B m, tcs I B m)) s r j = pthT (nsC I B) s r j := fun s j => pthT_ns (ns := nsC I B) (ns' := fun m => (kys I B m, tcs I B m)) (fun _ => rfl) s r j
  rcases f7 with ⟨fx, fh⟩ | ⟨fx, fh, fd⟩
  · -- it is there
    subst fx
    refine ⟨fun z => absurd z (by omega), fun _ => ?_⟩
    have fnd : fnT (en4 (rd I (B + 21)) a) h T2 = true := by
      rw [hT2, mkE]
      by_cases cd : d = h
      · subst cd
        exact (fd0_of wE (fun j hj => by rw [pE]; exact (f5 j hj).2.2) (fun j hj => by rw [pE]; exact f6 j hj) (by rw [pE]; exact fh)).1
      · obtain ⟨s', hs'⟩ : ∃ s' : Nat → Nat, (∀ j, j ≤ d → s' j = sJ I1 B j) ∧ (∀ j, d < j → j < h → s' j = (kys I B (pthT (nsC I B) s' r j)).length) ∧ s' h = (kys I B (pthT (nsC I B) s' r h)).length - 1 := ext_path (fun n => (kys I B n).length) (nsC I B) (sJ I1 B) r d h (by omega)
        have pc : ∀ j, j ≤ d → pthT (nsC I B) s' r j = pthT (nsC I B) (sJ I1 B) r j := fun j hj => pthT_congr j (fun i hi => hs'.1 i (by omega))
        exact (fd1_of (s := s') (d := d) (by omega) wE (fun j hj => by rw [pE, pc j hj, hs'.1 j hj]; exact (f5 j hj).2.2) (fun j hj => by rw [pE, pc j (by omega)]; exact f6 j hj) (by rw [pE, pc d (Nat.le_refl _)]; exact fh) (fun j h1 h2 => by rw [pE]; exact hs'.2.1 j h1 h2) (by rw [pE]; exact hs'.2.2)).1
    refine hK I1 (fun c k2 _ _ _ _ k10 k11 => f1 c k2 k10 k11) ?_
    unfold addT
    rw [if_pos fnd]
    have n1 : nsC I1 B = nsC I B := nsC_cg (f1 _ (by omega) (by omega) (by omega)) (f1 _ (by omega) (by omega) (by omega)) (f1 _ (by omega) (by omega) (by omega))
    have e1 : ent I1 B = ent I B := ent_cg (f1 _ (by omega) (by omega) (by omega))
    have sp1 : spn I1 B = spn I B := by
      unfold spn
      rw [f2 7 (by omega)]
      exact seg_congr (fun k _ => rd_of (f1 _ (by omega) (by omega) (by omega)) _)
    have sp2 : spe I1 B = spe I B := by
      unfold spe
      rw [f2 2 (by omega)]
      exact seg_congr (fun k _ => rd_of (f1 _ (by omega) (by omega) (by omega)) _)
    refine ⟨r, ⟨szOK_cg (f1 _ (by omega) (by omega) (by omega)) t1, by rw [f2 8 (by omega)]; exact t2, by rw [f2 7 (by omega)]; exact t3, by rw [f2 2 (by omega)]; exact t4, by rw [n1]; exact t5, by rw [n1, sp1]; exact t6, by rw [n1, sp2]; exact t7⟩, by rw [e1, n1]; exact hT2, ?_⟩
    intro hw
    rw [f2 14 (by omega)] at hw
    rw [n1, f2 15 (by omega)]
    have := hW hw
    refine ⟨this.1, ?_, ?_⟩
    · refine Eq.trans (seg_congr (fun k _ => ?_)) this.2.1
      exact rd_of (f1 _ (by omega) (by omega) (by omega)) _
    · refine Eq.trans (seg_congr (fun k _ => ?_)) this.2.2
      exact rd_of (f1 _ (by omega) (by omega) (by omega)) _
  · subst fx
    subst fd
    refine ⟨fun _ => ?_, fun z => absurd rfl z⟩
    have hnf : ∀ j, j ≤ d → hit (en4 (rd I (B + 21)) a) (kys I B (pthT (nsC I B) (sJ I1 B) r j)) = false := by
      intro j hj
      by_cases c : j = d
      · subst c; exact fh
      · exact f6 j (by omega)
    have fnd : fnT (en4 (rd I (B + 21)) a) d T2 = false := by
      rw [hT2, mkE]
      exact nf_of wE (fun j hj => by rw [pE]; exact (f5 j hj).2.2) (fun j hj => by rw [pE]; exact hnf j hj)
    have hsl : ∀ j, j ≤ d → sJ I1 B j = slT (en4 (rd I (B + 21)) a) d T2 j := by
      rw [hT2, mkE]
      exact sl_of wE (fun j hj => by rw [pE]; exact (f5 j hj).2.2)
    intro I2 eI2
    have e2 : rd I2 (B + 2) 2 = rd I (B + 2) 2 - 1 := by
      rw [eI2, rd_wt_s _ _ _ ⟨by rw [f2 2 (by omega)]; omega, by rw [f2 2 (by omega)]; omega⟩, f2 2 (by omega)]
    obtain ⟨c, hc⟩ : ∃ c : Nat, rd I (B + 2) 2 = (c : Int) + 1 := ⟨(rd I (B + 2) 2 - 1).toNat, by omega⟩
    have hc648 : c < 648 := by omega
    rw [e2, show rd I (B + 2) 2 - 1 = (c : Int) by omega, Int.toNat_natCast]
    refine ⟨by omega, ?_⟩
    intro v3 ev3 iv3
    have r5 : rd I2 (B + 5) c = rd I (B + 5) c := by rw [eI2, rd_wt_a _ _ _ _ (by omega), rd_of (f1 _ (by omega) (by omega) (by omega))]
    rw [r5] at ev3
    have hspe : spe I B = seg (rd I (B + 5)) 0 c ++ [rd I (B + 5) c] := by
      unfold spe
      rw [hc, show ((c : Int) + 1).toNat = c + 1 by omega, seg_succ, Nat.zero_add]
    have nd7 := t7.nodup_iff.mpr (ran_nd 648)
    have qin : rd I (B + 5) c ∈ spe I B := by rw [hspe]; simp
    have qb := ran_mem (t7.mem_iff.mp (List.mem_append_right _ qin))
    obtain ⟨q, hq⟩ : ∃ q : Nat, rd I (B + 5) c = q := ⟨(rd I (B + 5) c).toNat, by omega⟩
    rw [hq] at ev3 qin qb hspe
    subst ev3
    have qnot : (q : Int) ∉ inT d (mkT (nsC I B) d r) := fun z => (List.nodup_append.mp nd7).2.2 (q : Int) z (q : Int) qin rfl
    rw [wrn (4 * a) (by omega) (by omega), wrn (4 * q) (by omega) (by omega), Int.toNat_natCast, Int.toNat_natCast]
    refine ⟨by omega, ?_⟩
    intro I3 eI3
    have fr3 : ∀ c, c ≠ B + 2 → c ≠ B + 4 → c ≠ B + 10 → c ≠ B + 11 → I3 c = I c := by
      intro c k2 k4 k10 k11
      rw [eI3, cp_a _ _ _ _ _ _ k4, eI2, wt_a _ _ _ _ k2, f1 c k2 k10 k11]
    have r32 : ∀ k, k ≠ 2 → rd I3 (B + 2) k = rd I1 (B + 2) k := by
      intro k hk
      rw [eI3, rd_cp_a _ _ _ _ _ _ (by omega), eI2, rd_wt_k _ _ _ _ hk]
    have r310 : ∀ k, rd I3 (B + 10) k = rd I1 (B + 10) k := fun k => by rw [eI3, rd_cp_a _ _ _ _ _ _ (by omega), eI2, rd_wt_a _ _ _ _ (by omega)]
    have r311 : ∀ k, rd I3 (B + 11) k = rd I1 (B + 11) k := fun k => by rw [eI3, rd_cp_a _ _ _ _ _ _ (by omega), eI2, rd_wt_a _ _ _ _ (by omega)]
    have n3 : nsC I3 B = nsC I B := nsC_cg (fr3 _ (by omega) (by omega) (by omega) (by omega)) (fr3 _ (by omega) (by omega) (by omega) (by omega)) (fr3 _ (by omega) (by omega) (by omega) (by omega))
    have sz3 : szOK I3 B := szOK_cg (fr3 _ (by omega) (by omega) (by omega) (by omega)) t1
    have r34 : ∀ k, rd I3 (B + 4) k = if 4 * q ≤ k ∧ k < 4 * q + 4 then rd I (B + 21) (4 * a + (k - 4 * q)) else rd I (B + 4) k := by
      intro k
      rw [eI3, rd_cp, if_pos rfl]
      by_cases ck : 4 * q ≤ k ∧ k < 4 * q + 4
      · rw [if_pos ck, if_pos ck, eI2, rd_wt_a _ _ _ _ (by omega), rd_of (f1 _ (by omega) (by omega) (by omega))]
      · rw [if_neg ck, if_neg ck, eI2, rd_wt_a _ _ _ _ (by omega), rd_of (f1 _ (by omega) (by omega) (by omega))]
    have entq : ent I3 B (q : Int) = en4 (rd I (B + 21)) a := by
      unfold ent en4
      rw [Int.toNat_natCast, r34, r34, r34, r34, if_pos (by omega), if_pos (by omega), if_pos (by omega), if_pos (by omega)]
      rw [show 4 * a + (4 * q - 4 * q) = 4 * a by omega, show 4 * a + (4 * q + 1 - 4 * q) = 4 * a + 1 by omega, show 4 * a + (4 * q + 2 - 4 * q) = 4 * a + 2 by omega, show 4 * a + (4 * q + 3 - 4 * q) = 4 * a + 3 by omega]
    have ento : ∀ y : Int, 0 ≤ y → y ≠ q → ent I3 B y = ent I B y := by
      intro y y0 yq
      unfold ent en4
      rw [r34, r34, r34, r34, if_neg (by omega), if_neg (by omega), if_neg (by omega), if_neg (by omega)]
    have hT3 : mapT (ent I3 B) d (mkT (nsC I B) d r) = T2 := by
      rw [hT2]
      refine mapT_cg (fun m hm y hy => ?_)
      have yin := key_in t5 hm hy
      have yb := ran_mem (t7.mem_iff.mp (List.mem_append_left _ yin))
      exact ento y yb.1 (fun z => qnot (z ▸ yin))
    have hpk : PthOK (fun m => m < 348) (nsC I B) (sJ I1 B) d r := ⟨t5, trC_nd hC0, fun j hj => by
      rw [(f5 j hj).2.2]
      have := kc_le (en4 (rd I (B + 21)) a) (kys I B (pthT (nsC I B) (sJ I1 B) r j))
      unfold kys at this
      rw [List.length_map] at this
      exact this⟩
    have filN : fil d (rtA d) 4 (mkT (nsC I B) d r) := fil_map (f := ent I B) (by rw [← hT2]; exact hg.1)
    have h4 := fil_nodes (Nat.le_refl 4) filN
    have leafin : pthT (nsC I B) (sJ I1 B) r d ∈ fpT (nsC I B) d r := fp_up hpk d (Nat.le_refl _) _ (fpT_self _ _ _)
    have leafv : pthT (nsC I B) (sJ I1 B) r d < 348 := wfT_V t5 _ leafin
    rw [r32 11 (by omega), f3, Int.toNat_natCast, r310, r311, (f5 d (Nat.le_refl _)).1, (f5 d (Nat.le_refl _)).2.1]
    refine ⟨by omega, by omega, ?_⟩
    have l4 := h4 _ leafin
    have l4' : (tks I B (pthT (nsC I B) (sJ I1 B) r d)).length ≤ 4 := l4
    rw [tks_len] at l4'
    obtain ⟨sz, hsz⟩ : ∃ sz : Nat, rd I (B + 8) (pthT (nsC I B) (sJ I1 B) r d) = sz := ⟨(rd I (B + 8) (pthT (nsC I B) (sJ I1 B) r d)).toNat, by have := t1 _ leafv; omega⟩
    have sle : sJ I1 B d ≤ sz := by
      have := hpk.2.2 d (Nat.le_refl _)
      have h' : sJ I1 B d ≤ (tks I B (pthT (nsC I B) (sJ I1 B) r d)).length := this
      rw [tks_len, hsz] at h'
      omega
    refine c_putInto (k := sJ I1 B d) (s := sz) hB leafv (by rw [rd_of (fr3 _ (by omega) (by omega) (by omega) (by omega)), hsz]) (by rw [hsz] at l4'; omega) sle iv3 ⟨by omega, by omega⟩ sz3 ?_
    intro I4 x1 x2 x3 x4 x5
    have r42 : ∀ k, rd I4 (B + 2) k = rd I3 (B + 2) k := fun k => rd_of (x1 _ (by omega) (by omega) (by omega)) k
    have sp4 : spn I4 B = spn I B := by
      unfold spn
      rw [r42, r32 7 (by omega), f2 7 (by omega)]
      exact seg_congr (fun k _ => by rw [rd_of (x1 _ (by omega) (by omega) (by omega)), rd_of (fr3 _ (by omega) (by omega) (by omega) (by omega))])
    have hA : InvA (fun m => m < 348) (nsC I B) (nsC I4 B) (sJ I1 B) (q : Int) d r d [] := by
      refine invA_start hpk ?_ (fun m hm cm => ?_)
      · show (tks I4 B _, tcs I4 B _) = _
        rw [x4, x5]
        show (insL (nsC I3 B _).1 _ _, insL (nsC I3 B _).2 _ _) = _
        rw [n3]
      · rw [nsC_eq x2 hm cm, n3]
    refine c_split (ns0 := nsC I B) (s := sJ I1 B) (e := (q : Int)) hB hpk h4 (by omega) ?_ hA (by rw [r42, r32 8 (by omega), f2 8 (by omega), t2]) (by rw [r42, r32 11 (by omega), f3]) (fun j hj => by rw [rd_of (x1 _ (by omega) (by omega) (by omega)), r310]; exact (f5 j hj).1) (fun j hj => by rw [rd_of (x1 _ (by omega) (by omega) (by omega)), r311]; exact (f5 j hj).2.1) (by rw [r42, r32 7 (by omega), f2 7 (by omega)]; omega) (by rw [sp4]; exact t6) ?_
    · intro m hm
      by_cases cm : m = pthT (nsC I B) (sJ I1 B) r d
      · subst cm; rw [x3]; rw [hsz] at l4'; omega
      · rw [(x2 m hm cm).2.2]; exact sz3 m hm
    intro J h' r' j1 j2 j3 j4 j5 j6 j7 j8 I6 eI6
    have q6 : ∀ c, c ≠ B + 2 → I6 c = J c := fun c k2 => by rw [eI6, wt_a _ _ _ _ k2]
    have nJ : nsC I6 B = nsC J B := nsC_cg (q6 _ (by omega)) (q6 _ (by omega)) (q6 _ (by omega))
    have q62 : ∀ k, k ≠ 14 → rd I6 (B + 2) k = rd J (B + 2) k := fun k hk => by rw [eI6, rd_wt_k _ _ _ _ hk]
    have eJ : ent I6 B = ent I3 B := ent_cg (by rw [q6 _ (by omega), j1 _ (by omega) (by omega) (by omega) (by omega), x1 _ (by omega) (by omega) (by omega)])
    have spJ : spn I6 B = spn J B := by
      unfold spn
      rw [q62 7 (by omega)]
      exact seg_congr (fun k _ => rd_of (q6 _ (by omega)) _)
    have speJ : spe I6 B = seg (rd I (B + 5)) 0 c := by
      unfold spe
      rw [q62 2 (by omega), j2 2 (by omega) (by omega), r42, eI3, rd_cp_a _ _ _ _ _ _ (by omega), e2, show rd I (B + 2) 2 - 1 = (c : Int) by omega, Int.toNat_natCast]
      exact seg_congr (fun k _ => by rw [rd_of (q6 _ (by omega)), rd_of (j1 _ (by omega) (by omega) (by omega) (by omega)), rd_of (x1 _ (by omega) (by omega) (by omega)), rd_of (fr3 _ (by omega) (by omega) (by omega) (by omega))])
    have filN0 : fil d 0 4 (mkT (nsC I B) d r) := fil_mono filN (Nat.zero_le _) (Nat.le_refl _)
    have pk0 : pOK (sJ I1 B) d 0 (mkT (nsC I B) d r) := by
      refine pOK_of t5 (fun j hj => ?_)
      have e0 : (fun k => sJ I1 B (0 + k)) = sJ I1 B := funext (fun k => by rw [Nat.zero_add])
      rw [e0, Nat.zero_add]
      exact hpk.2.2 j hj
    obtain ⟨k1, A, Bl, kA, kB, -⟩ := ins_ok (lo := fun _ => True) (hi := fun _ => True) (e := (q : Int)) filN0 pk0
    have res : addT (en4 (rd I (B + 21)) a) ⟨d, T2⟩ = ⟨h', mapT (ent I6 B) h' (mkT (nsC I6 B) h' r')⟩ := by
      unfold addT
      rw [if_neg (by rw [fnd]; decide), eJ, nJ]
      show _ = mapS (ent I3 B) ⟨h', mkT (nsC J B) h' r'⟩
      rw [j7, ← topT_map, ← insP_map, hT3, entq]
      show topT d (insP (slT (en4 (rd I (B + 21)) a) d T2) (en4 (rd I (B + 21)) a) d 0 T2) = _
      rw [insP_congr (s := slT (en4 (rd I (B + 21)) a) d T2) (s' := sJ I1 B) d 0 T2 (fun j hj => by rw [Nat.zero_add]; exact (hsl j hj).symm)]
    refine hK I6 ?_ ?_
    · intro c k2 k4 k6 k7 k8 k10 k11
      rw [q6 c k2, j1 c k2 k6 k7 k8, x1 c k6 k7 k8, fr3 c k2 k4 k10 k11]
    · rw [res]
      refine ⟨r', ⟨szOK_cg (q6 _ (by omega)) j3, by rw [q62 8 (by omega)]; exact j4, by rw [q62 7 (by omega)]; exact j5, ?_, by rw [nJ]; exact j6, by rw [nJ, spJ]; exact j8, ?_⟩, rfl, ?_⟩
      · rw [q62 2 (by omega), j2 2 (by omega) (by omega), r42, eI3, rd_cp_a _ _ _ _ _ _ (by omega), e2]
        omega
      · show (inT h' (mkT (nsC I6 B) h' r') ++ spe I6 B).Perm (ran 648)
        have l1 : inT h' (mkT (nsC J B) h' r') = lsT (⟨h', mkT (nsC J B) h' r'⟩ : TS Int) := rfl
        rw [nJ, speJ, l1, j7, lsT_top (fil_mono k1 (Nat.zero_le _) (Nat.le_refl _)), kB]
        refine List.Perm.trans ?_ t7
        rw [kA, hspe, List.append_assoc, List.append_assoc]
        refine List.Perm.append_left _ ?_
        rw [List.cons_append, ← List.append_assoc]
        exact (List.perm_append_singleton (q : Int) _).symm
      · intro hw
        exfalso
        apply hw
        show rd I6 (B + 2) 14 = 0
        rw [eI6, rd_wt_s _ _ _ ⟨by omega, by omega⟩]
set_option maxHeartbeats 2000000 in
theorem c_add_16 {B a : Nat} {T : TS E} {I : Mm} {K : Mm → Prop} {fa : Nat} (hB : isX B) (ha : 4 * a + 4 ≤ 1200) (hT : TreeC I B T) (hg : good T) (hl : (lsT T).length ≤ 647)
    (hK : ∀ I' : Mm, (∀ c, c ≠ B + 2 → c ≠ B + 4 → c ≠ B + 6 → c ≠ B + 7 → c ≠ B + 8 → c ≠ B + 10 → c ≠ B + 11 → I' c = I c) → TreeC I' B (addT (en4 (rd I (B + 17)) a) T) → K I') : CallV 66 [.inr (2, B, 2), .inr (2, B, 16), .inl (fa, (a : Int))] I K := by
  obtain ⟨h, T2⟩ := T
  obtain ⟨r, hC, hT2, hW⟩ := hT
  have hC0 : TrC I B h r := hC
  simp only at hT2 hC hW
  obtain ⟨t1, t2, t3, t4, t5, t6, t7⟩ := hC
  have hh : h ≤ 5 := ht_good hg (by omega)
  have len2 : (inT h (mkT (nsC I B) h r)).length = (lsT (⟨h, T2⟩ : TS E)).length := by
    show _ = (inT h T2).length
    rw [hT2, inT_map, List.length_map]
  have c2 := trC_c2 hC0
  have c7 := trC_c7 hC0
  have nd1 : 2 * ndT h (mkT (nsC I B) h r) ≤ (lsT (⟨h, T2⟩ : TS E)).length + 2 := by
    have := nd_good hg
    rw [hT2] at this
    simp only [ndT_map] at this
    rw [← hT2] at this
    exact this
  rw [len2] at c2
  refine callV_fl (as' := [.inr (2, B, 2), .inr (2, B, 16), .inl (1, (a : Int))]) rfl ?_
  refine callV_of rfl (b_add_16 hB (inRn (by omega)) ⟨fun z => absurd z (by omega), fun _ => ⟨fun z => absurd z (by omega), fun _ => ?_⟩⟩)
  refine c_find_16 hB ha t1 t2 t5 (trC_num hC0) (by omega) ?_
  intro d x I1 f1 f2 f3 f4 f5 f6 f7
  have wE := wfE t5
  have pE : ∀ s j, pthT (fun m => (kys I B m, tcs I B m)) s r j = pthT (nsC I B) s r j := fun s j => pthT_ns (ns := nsC I B) (ns' := fun m => (kys I B m, tcs I B m)) (fun _ => rfl) s r j
  rcases f7 with ⟨fx, fh⟩ | ⟨fx, fh, fd⟩
  · -- it is there
    subst fx
    refine ⟨fun z => absurd z (by omega), fun _ => ?_⟩
    have fnd : fnT (en4 (rd I (B + 17)) a) h T2 = true := by
      rw [hT2, mkE]
      by_cases cd : d = h
      · subst cd
        exact (fd0_of wE (fun j hj => by rw [pE]; exact (f5 j hj).2.2) (fun j hj => by rw [pE]; exact f6 j hj) (by rw [pE]; exact fh)).1
      · obtain ⟨s', hs'⟩ : ∃ s' : Nat → Nat, (∀ j, j ≤ d → s' j = sJ I1 B j) ∧ (∀ j, d < j → j < h → s' j = (kys I B (pthT (nsC I B) s' r j)).length) ∧ s' h = (kys I B (pthT (nsC I B) s' r h)).length - 1 := ext_path (fun n => (kys I B n).length) (nsC I B) (sJ I1 B) r d h (by omega)
        have pc : ∀ j, j ≤ d → pthT (nsC I B) s' r j = pthT (nsC I B) (sJ I1 B) r j := fun j hj => pthT_congr j (fun i hi => hs'.1 i (by omega))
        exact (fd1_of (s := s') (d := d) (by omega) wE (fun j hj => by rw [pE, pc j hj, hs'.1 j hj]; exact (f5 j hj).2.2) (fun j hj => by rw [pE, pc j (by omega)]; exact f6 j hj) (by rw [pE, pc d (Nat.le_refl _)]; exact fh) (fun j h1 h2 => by rw [pE]; exact hs'.2.1 j h1 h2) (by rw [pE]; exact hs'.2.2)).1
    refine hK I1 (fun c k2 _ _ _ _ k10 k11 => f1 c k2 k10 k11) ?_
    unfold addT
    rw [if_pos fnd]
    have n1 : nsC I1 B = nsC I B := nsC_cg (f1 _ (by omega) (by omega) (by omega)) (f1 _ (by omega) (by omega) (by omega)) (f1 _ (by omega) (by omega) (by omega))
    have e1 : ent I1 B = ent I B := ent_cg (f1 _ (by omega) (by omega) (by omega))
    have sp1 : spn I1 B = spn I B := by
      unfold spn
      rw [f2 7 (by omega)]
      exact seg_congr (fun k _ => rd_of (f1 _ (by omega) (by omega) (by omega)) _)
    have sp2 : spe I1 B = spe I B := by
      unfold spe
      rw [f2 2 (by omega)]
      exact seg_congr (fun k _ => rd_of (f1 _ (by omega) (by omega) (by omega)) _)
    refine ⟨r, ⟨szOK_cg (f1 _ (by omega) (by omega) (by omega)) t1, by rw [f2 8 (by omega)]; exact t2, by rw [f2 7 (by omega)]; exact t3, by rw [f2 2 (by omega)]; exact t4, by rw [n1]; exact t5, by rw [n1, sp1]; exact t6, by rw [n1, sp2]; exact t7⟩, by rw [e1, n1]; exact hT2, ?_⟩
    intro hw
    rw [f2 14 (by omega)] at hw
    rw [n1, f2 15 (by omega)]
    have := hW hw
    refine ⟨this.1, ?_, ?_⟩
    · refine Eq.trans (seg_congr (fun k _ => ?_)) this.2.1
      exact rd_of (f1 _ (by omega) (by omega) (by omega)) _
    · refine Eq.trans (seg_congr (fun k _ => ?_)) this.2.2
      exact rd_of (f1 _ (by omega) (by omega) (by omega)) _
  · subst fx
    subst fd
    refine ⟨fun _ => ?_, fun z => absurd rfl z⟩
    have hnf : ∀ j, j ≤ d → hit (en4 (rd I (B + 17)) a) (kys I B (pthT (nsC I B) (sJ I1 B) r j)) = false := by
      intro j hj
      by_cases c : j = d
      · subst c; exact fh
      · exact f6 j (by omega)
    have fnd : fnT (en4 (rd I (B + 17)) a) d T2 = false := by
      rw [hT2, mkE]
      exact nf_of wE (fun j hj => by rw [pE]; exact (f5 j hj).2.2) (fun j hj => by rw [pE]; exact hnf j hj)
    have hsl : ∀ j, j ≤ d → sJ I1 B j = slT (en4 (rd I (B + 17)) a) d T2 j := by
      rw [hT2, mkE]
      exact sl_of wE (fun j hj => by rw [pE]; exact (f5 j hj).2.2)
    intro I2 eI2
    have e2 : rd I2 (B + 2) 2 = rd I (B + 2) 2 - 1 := by
      rw [eI2, rd_wt_s _ _ _ ⟨by rw [f2 2 (by omega)]; omega, by rw [f2 2 (by omega)]; omega⟩, f2 2 (by omega)]
    obtain ⟨c, hc⟩ : ∃ c : Nat, rd I (B + 2) 2 = (c : Int) + 1 := ⟨(rd I (B + 2) 2 - 1).toNat, by omega⟩
    have hc648 : c < 648 := by omega
    rw [e2, show rd I (B + 2) 2 - 1 = (c : Int) by omega, Int.toNat_natCast]
    refine ⟨by omega, ?_⟩
    intro v3 ev3 iv3
    have r5 : rd I2 (B + 5) c = rd I (B + 5) c := by rw [eI2, rd_wt_a _ _ _ _ (by omega), rd_of (f1 _ (by omega) (by omega) (by omega))]
    rw [r5] at ev3
    have hspe : spe I B = seg (rd I (B + 5)) 0 c ++ [rd I (B + 5) c] := by
      unfold spe
      rw [hc, show ((c : Int) + 1).toNat = c + 1 by omega, seg_succ, Nat.zero_add]
    have nd7 := t7.nodup_iff.mpr (ran_nd 648)
    have qin : rd I (B + 5) c ∈ spe I B := by rw [hspe]; simp
    have qb := ran_mem (t7.mem_iff.mp (List.mem_append_right _ qin))
    obtain ⟨q, hq⟩ : ∃ q : Nat, rd I (B + 5) c = q := ⟨(rd I (B + 5) c).toNat, by omega⟩
    rw [hq] at ev3 qin qb hspe
    subst ev3
    have qnot : (q : Int) ∉ inT d (mkT (nsC I B) d r) := fun z => (List.nodup_append.mp nd7).2.2 (q : Int) z (q : Int) qin rfl
    rw [wrn (4 * a) (by omega) (by omega), wrn (4 * q) (by omega) (by omega), Int.toNat_natCast, Int.toNat_natCast]
    refine ⟨by omega, ?_⟩
    intro I3 eI3
    have fr3 : ∀ c, c ≠ B + 2 → c ≠ B + 4 → c ≠ B + 10 → c ≠ B + 11 → I3 c = I c := by
      intro c k2 k4 k10 k11
      rw [eI3, cp_a _ _ _ _ _ _ k4, eI2, wt_a _ _ _ _ k2, f1 c k2 k10 k11]
    have r32 : ∀ k, k ≠ 2 → rd I3 (B + 2) k = rd I1 (B + 2) k := by
      intro k hk
      rw [eI3, rd_cp_a _ _ _ _ _ _ (by omega), eI2, rd_wt_k _ _ _ _ hk]
    have r310 : ∀ k, rd I3 (B + 10) k = rd I1 (B + 10) k := fun k => by rw [eI3, rd_cp_a _ _ _ _ _ _ (by omega), eI2, rd_wt_a _ _ _ _ (by omega)]
    have r311 : ∀ k, rd I3 (B + 11) k = rd I1 (B + 11) k := fun k => by rw [eI3, rd_cp_a _ _ _ _ _ _ (by omega), eI2, rd_wt_a _ _ _ _ (by omega)]
    have n3 : nsC I3 B = nsC I B := nsC_cg (fr3 _ (by omega) (by omega) (by omega) (by omega)) (fr3 _ (by omega) (by omega) (by omega) (by omega)) (fr3 _ (by omega) (by omega) (by omega) (by omega))
    have sz3 : szOK I3 B := szOK_cg (fr3 _ (by omega) (by omega) (by omega) (by omega)) t1
    have r34 : ∀ k, rd I3 (B + 4) k = if 4 * q ≤ k ∧ k < 4 * q + 4 then rd I (B + 17) (4 * a + (k - 4 * q)) else rd I (B + 4) k := by
      intro k
      rw [eI3, rd_cp, if_pos rfl]
      by_cases ck : 4 * q ≤ k ∧ k < 4 * q + 4
      · rw [if_pos ck, if_pos ck, eI2, rd_wt_a _ _ _ _ (by omega), rd_of (f1 _ (by omega) (by omega) (by omega))]
      · rw [if_neg ck, if_neg ck, eI2, rd_wt_a _ _ _ _ (by omega), rd_of (f1 _ (by omega) (by omega) (by omega))]
    have entq : ent I3 B (q : Int) = en4 (rd I (B + 17)) a := by
      unfold ent en4
      rw [Int.toNat_natCast, r34, r34, r34, r34, if_pos (by omega), if_pos (by omega), if_pos (by omega), if_pos (by omega)]
      rw [show 4 * a + (4 * q - 4 * q) = 4 * a by omega, show 4 * a + (4 * q + 1 - 4 * q) = 4 * a + 1 by omega, show 4 * a + (4 * q + 2 - 4 * q) = 4 * a + 2 by omega, show 4 * a + (4 * q + 3 - 4 * q) = 4 * a + 3 by omega]
    have ento : ∀ y : Int, 0 ≤ y → y ≠ q → ent I3 B y = ent I B y := by
      intro y y0 yq
      unfold ent en4
      rw [r34, r34, r34, r34, if_neg (by omega), if_neg (by omega), if_neg (by omega), if_neg (by omega)]
    have hT3 : mapT (ent I3 B) d (mkT (nsC I B) d r) = T2 := by
      rw [hT2]
      refine mapT_cg (fun m hm y hy => ?_)
      have yin := key_in t5 hm hy
      have yb := ran_mem (t7.mem_iff.mp (List.mem_append_left _ yin))
      exact ento y yb.1 (fun z => qnot (z ▸ yin))
    have hpk : PthOK (fun m => m < 348) (nsC I B) (sJ I1 B) d r := ⟨t5, trC_nd hC0, fun j hj => by
      rw [(f5 j hj).2.2]
      have := kc_le (en4 (rd I (B + 17)) a) (kys I B (pthT (nsC I B) (sJ I1 B) r j))
      unfold kys at this
      rw [List.length_map] at this
      exact this⟩
    have filN : fil d (rtA d) 4 (mkT (nsC I B) d r) := fil_map (f := ent I B) (by rw [← hT2]; exact hg.1)
    have h4 := fil_nodes (Nat.le_refl 4) filN
    have leafin : pthT (nsC I B) (sJ I1 B) r d ∈ fpT (nsC I B) d r := fp_up hpk d (Nat.le_refl _) _ (fpT_self _ _ _)
    have leafv : pthT (nsC I B) (sJ I1 B) r d < 348 := wfT_V t5 _ leafin
    rw [r32 11 (by omega), f3, Int.toNat_natCast, r310, r311, (f5 d (Nat.le_refl _)).1, (f5 d (Nat.le_refl _)).2.1]
    refine ⟨by omega, by omega, ?_⟩
    have l4 := h4 _ leafin
    have l4' : (tks I B (pthT (nsC I B) (sJ I1 B) r d)).length ≤ 4 := l4
    rw [tks_len] at l4'
    obtain ⟨sz, hsz⟩ : ∃ sz : Nat, rd I (B + 8) (pthT (nsC I B) (sJ I1 B) r d) = sz := ⟨(rd I (B + 8) (pthT (nsC I B) (sJ I1 B) r d)).toNat, by have := t1 _ leafv; omega⟩
    have sle : sJ I1 B d ≤ sz := by
      have := hpk.2.2 d (Nat.le_refl _)
      have h' : sJ I1 B d ≤ (tks I B (pthT (nsC I B) (sJ I1 B) r d)).length := this
      rw [tks_len, hsz] at h'
      omega
    refine c_putInto (k := sJ I1 B d) (s := sz) hB leafv (by rw [rd_of (fr3 _ (by omega) (by omega) (by omega) (by omega)), hsz]) (by rw [hsz] at l4'; omega) sle iv3 ⟨by omega, by omega⟩ sz3 ?_
    intro I4 x1 x2 x3 x4 x5
    have r42 : ∀ k, rd I4 (B + 2) k = rd I3 (B + 2) k := fun k => rd_of (x1 _ (by omega) (by omega) (by omega)) k
    have sp4 : spn I4 B = spn I B := by
      unfold spn
      rw [r42, r32 7 (by omega), f2 7 (by omega)]
      exact seg_congr (fun k _ => by rw [rd_of (x1 _ (by omega) (by omega) (by omega)), rd_of (fr3 _ (by omega) (by omega) (by omega) (by omega))])
    have hA : InvA (fun m => m < 348) (nsC I B) (nsC I4 B) (sJ I1 B) (q : Int) d r d [] := by
      refine invA_start hpk ?_ (fun m hm cm => ?_)
      · show (tks I4 B _, tcs I4 B _) = _
        rw [x4, x5]
        show (insL (nsC I3 B _).1 _ _, insL (nsC I3 B _).2 _ _) = _
        rw [n3]
      · rw [nsC_eq x2 hm cm, n3]
    refine c_split (ns0 := nsC I B) (s := sJ I1 B) (e := (q : Int)) hB hpk h4 (by omega) ?_ hA (by rw [r42, r32 8 (by omega), f2 8 (by omega), t2]) (by rw [r42, r32 11 (by omega), f3]) (fun j hj => by rw [rd_of (x1 _ (by omega) (by omega) (by omega)), r310]; exact (f5 j hj).1) (fun j hj => by rw [rd_of (x1 _ (by omega) (by omega) (by omega)), r311]; exact (f5 j hj).2.1) (by rw [r42, r32 7 (by omega), f2 7 (by omega)]; omega) (by rw [sp4]; exact t6) ?_
    · intro m hm
      by_cases cm : m = pthT (nsC I B) (sJ I1 B) r d
      · subst cm; rw [x3]; rw [hsz] at l4'; omega
      · rw [(x2 m hm cm).2.2]; exact sz3 m hm
    intro J h' r' j1 j2 j3 j4 j5 j6 j7 j8 I6 eI6
    have q6 : ∀ c, c ≠ B + 2 → I6 c = J c := fun c k2 => by rw [eI6, wt_a _ _ _ _ k2]
    have nJ : nsC I6 B = nsC J B := nsC_cg (q6 _ (by omega)) (q6 _ (by omega)) (q6 _ (by omega))
    have q62 : ∀ k, k ≠ 14 → rd I6 (B + 2) k = rd J (B + 2) k := fun k hk => by rw [eI6, rd_wt_k _ _ _ _ hk]
    have eJ : ent I6 B = ent I3 B := ent_cg (by rw [q6 _ (by omega), j1 _ (by omega) (by omega) (by omega) (by omega), x1 _ (by omega) (by omega) (by omega)])
    have spJ : spn I6 B = spn J B := by
      unfold spn
      rw [q62 7 (by omega)]
      exact seg_congr (fun k _ => rd_of (q6 _ (by omega)) _)
    have speJ : spe I6 B = seg (rd I (B + 5)) 0 c := by
      unfold spe
      rw [q62 2 (by omega), j2 2 (by omega) (by omega), r42, eI3, rd_cp_a _ _ _ _ _ _ (by omega), e2, show rd I (B + 2) 2 - 1 = (c : Int) by omega, Int.toNat_natCast]
      exact seg_congr (fun k _ => by rw [rd_of (q6 _ (by omega)), rd_of (j1 _ (by omega) (by omega) (by omega) (by omega)), rd_of (x1 _ (by omega) (by omega) (by omega)), rd_of (fr3 _ (by omega) (by omega) (by omega) (by omega))])
    have filN0 : fil d 0 4 (mkT (nsC I B) d r) := fil_mono filN (Nat.zero_le _) (Nat.le_refl _)
    have pk0 : pOK (sJ I1 B) d 0 (mkT (nsC I B) d r) := by
      refine pOK_of t5 (fun j hj => ?_)
      have e0 : (fun k => sJ I1 B (0 + k)) = sJ I1 B := funext (fun k => by rw [Nat.zero_add])
      rw [e0, Nat.zero_add]
      exact hpk.2.2 j hj
    obtain ⟨k1, A, Bl, kA, kB, -⟩ := ins_ok (lo := fun _ => True) (hi := fun _ => True) (e := (q : Int)) filN0 pk0
    have res : addT (en4 (rd I (B + 17)) a) ⟨d, T2⟩ = ⟨h', mapT (ent I6 B) h' (mkT (nsC I6 B) h' r')⟩ := by
      unfold addT
      rw [if_neg (by rw [fnd]; decide), eJ, nJ]
      show _ = mapS (ent I3 B) ⟨h', mkT (nsC J B) h' r'⟩
      rw [j7, ← topT_map, ← insP_map, hT3, entq]
      show topT d (insP (slT (en4 (rd I (B + 17)) a) d T2) (en4 (rd I (B + 17)) a) d 0 T2) = _
      rw [insP_congr (s := slT (en4 (rd I (B + 17)) a) d T2) (s' := sJ I1 B) d 0 T2 (fun j hj => by rw [Nat.zero_add]; exact (hsl j hj).symm)]
    refine hK I6 ?_ ?_
    · intro c k2 k4 k6 k7 k8 k10 k11
      rw [q6 c k2, j1 c k2 k6 k7 k8, x1 c k6 k7 k8, fr3 c k2 k4 k10 k11]
    · rw [res]
      refine ⟨r', ⟨szOK_cg (q6 _ (by omega)) j3, by rw [q62 8 (by omega)]; exact j4, by rw [q62 7 (by omega)]; exact j5, ?_, by rw [nJ]; exact j6, by rw [nJ, spJ]; exact j8, ?_⟩, rfl, ?_⟩
      · rw [q62 2 (by omega), j2 2 (by omega) (by omega), r42, eI3, rd_cp_a _ _ _ _ _ _ (by omega), e2]
        omega
      · show (inT h' (mkT (nsC I6 B) h' r') ++ spe I6 B).Perm (ran 648)
        have l1 : inT h' (mkT (nsC J B) h' r') = lsT (⟨h', mkT (nsC J B) h' r'⟩ : TS Int) := rfl
        rw [nJ, speJ, l1, j7, lsT_top (fil_mono k1 (Nat.zero_le _) (Nat.le_refl _)), kB]
        refine List.Perm.trans ?_ t7
        rw [kA, hspe, List.append_assoc, List.append_assoc]
        refine List.Perm.append_left _ ?_
        rw [List.cons_append, ← List.append_assoc]
        exact (List.perm_append_singleton (q : Int) _).symm
      · intro hw
        exfalso
        apply hw
        show rd I6 (B + 2) 14 = 0
        rw [eI6, rd_wt_s _ _ _ ⟨by omega, by omega⟩]
