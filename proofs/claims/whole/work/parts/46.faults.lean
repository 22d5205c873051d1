/-! THE CLASS: an empty tree, its height, its faults -/
theorem seg_rev (n : Nat) : (seg (fun k => (n : Int) - 1 - k) 0 n).Perm (ran n) := by
  have : seg (fun k => (n : Int) - 1 - k) 0 n = (ran n).reverse := by
    refine seg_ext (by rw [List.length_reverse, ran_len]) (fun k hk => ?_)
    rw [List.getElem?_reverse (by rw [ran_len]; exact hk), ran_len]
    unfold ran
    rw [List.getElem?_map, List.getElem?_range (by omega)]
    show some (((n - 1 - k : Nat)) : Int) = _
    congr 1
    omega
  rw [this]
  exact List.reverse_perm _
set_option maxHeartbeats 2000000 in
theorem c_empty {B : Nat} {I : Mm} {K : Mm → Prop} (hB : isX B) (hsz : szOK I B)
    (hK : ∀ I' : Mm, (∀ c, c ≠ B + 2 → c ≠ B + 5 → c ≠ B + 7 → c ≠ B + 8 → c ≠ B + 9 → I' c = I c) → TreeC I' B ⟨0, ([] : List E)⟩ → K I') : CallV 59 [.inr (2, B, 2)] I K := by
  have loop2 : ∀ (d k : Nat) (J : Mm), k + d = 348 → (∀ c, c ≠ B + 2 → c ≠ B + 5 → c ≠ B + 9 → J c = I c) → rd J (B + 2) 2 = 648 → (∀ j, j < 648 → rd J (B + 5) j = 647 - j) → (∀ j, j < k → rd J (B + 9) j = 347 - j) → GoA 59 35 [some (.inr (2, B, 2)), some (.inl (1, (k : Int)))] [] J (rV K) := by
    intro d
    induction d with
    | zero =>
      intro k J hk p1 p2 p3 p4
      have : k = 348 := by omega
      subst this
      refine b_empty_35 hB (inRn (by omega)) ⟨fun _ => ?_, fun z => absurd (by omega) z⟩
      intro I1 eI1
      have q1 : ∀ c, c ≠ B + 2 → c ≠ B + 5 → c ≠ B + 9 → I1 c = I c := fun c k2 k5 k9 => by rw [eI1, wt_a _ _ _ _ k2, p1 c k2 k5 k9]
      have r9 : ∀ j, j < 348 → rd I1 (B + 9) j = 347 - j := fun j hj => by rw [eI1, rd_wt_a _ _ _ _ (by omega), p4 j hj]
      refine c_takeNode (c := 347) (r := 0) hB (by rw [eI1, rd_wt_s _ _ _ ⟨by omega, by omega⟩]; rfl) (by omega) (by rw [r9 347 (by omega)]; rfl) (by omega) (szOK_cg (q1 _ (by omega) (by omega) (by omega)) hsz) ?_
      intro I2 x1 x2 x3 x4 x5 x6 x7 I3 eI3 I4 eI4
      have q4 : ∀ c, c ≠ B + 2 → I4 c = I2 c := fun c k2 => by rw [eI4, wt_a _ _ _ _ k2, eI3, wt_a _ _ _ _ k2]
      have q42 : ∀ k, k ≠ 8 → k ≠ 14 → rd I4 (B + 2) k = rd I2 (B + 2) k := fun k k8 k14 => by rw [eI4, rd_wt_k _ _ _ _ k14, eI3, rd_wt_k _ _ _ _ k8]
      refine hK I4 (fun c k2 k5 k7 k8 k9 => by rw [q4 c k2, x1 c k2 k7 k8, q1 c k2 k5 k9]) ?_
      have n4 : nsC I4 B = nsC I2 B := nsC_cg (q4 _ (by omega)) (q4 _ (by omega)) (q4 _ (by omega))
      have n0 : nsC I4 B 0 = ([], [-1]) := by
        rw [n4]
        show (tks I2 B 0, tcs I2 B 0) = _
        rw [x6, x7]
      have m0 : mkT (nsC I4 B) 0 0 = ([] : List Int) := by
        show (nsC I4 B 0).1 = _
        rw [n0]
      have c2 : rd I4 (B + 2) 2 = 648 := by rw [q42 2 (by omega) (by omega), x2 2 (by omega), eI1, rd_wt_k _ _ _ _ (by omega), p2]
      have c7 : rd I4 (B + 2) 7 = 347 := by rw [q42 7 (by omega) (by omega), x3]; rfl
      refine ⟨0, ⟨?_, by rw [eI4, rd_wt_k _ _ _ _ (by omega), eI3, rd_wt_s _ _ _ ⟨by omega, by omega⟩], by rw [c7]; omega, by rw [c2]; omega, ?_, ?_, ?_⟩, ?_, ?_⟩
      · intro m hm
        rw [rd_of (q4 _ (by omega))]
        by_cases c : m = 0
        · subst c; rw [x5]; omega
        · rw [(x4 m hm c).2.2]; exact (szOK_cg (q1 _ (by omega) (by omega) (by omega)) hsz) m hm
      · refine ⟨by omega, ?_⟩
        rw [n0]; rfl
      · have e1 : spn I4 B = seg (fun k => (348 : Int) - 1 - k) 0 347 := by
          unfold spn
          rw [c7]
          refine seg_congr (fun k hk => ?_)
          rw [rd_of (q4 _ (by omega)), rd_of (x1 _ (by omega) (by omega) (by omega)), r9 _ (by omega)]
          omega
        rw [e1]
        refine List.Perm.trans ?_ (seg_rev 348)
        rw [show seg (fun k => ((348 : Nat) : Int) - 1 - k) 0 348 = seg (fun k => (348 : Int) - 1 - k) 0 347 ++ [(0 : Int)] from by rw [seg_succ]; rfl]
        exact (List.perm_append_singleton (0 : Int) _).symm
      · have i0 : inT 0 (mkT (nsC I4 B) 0 0) = [] := m0
        rw [i0, List.nil_append]
        have e1 : spe I4 B = seg (fun k => ((648 : Nat) : Int) - 1 - k) 0 648 := by
          unfold spe
          rw [c2]
          refine seg_congr (fun k hk => ?_)
          rw [rd_of (q4 _ (by omega)), rd_of (x1 _ (by omega) (by omega) (by omega)), eI1, rd_wt_a _ _ _ _ (by omega), p3 _ (by omega)]
          omega
        rw [e1]
        exact seg_rev 648
      · have : ∀ l : List Int, l = [] → ([] : List E) = l.map (ent I4 B) := fun l hl => by rw [hl]; rfl
        exact this _ m0
      · intro z
        exact absurd (by rw [eI4, rd_wt_s _ _ _ ⟨by omega, by omega⟩]) z
    | succ d ih =>
      intro k J hk p1 p2 p3 p4
      refine b_empty_35 hB (inRn (by omega)) ⟨fun z => absurd z (by omega), fun _ => ⟨by omega, ?_⟩⟩
      intro I5 eI5 v1 e1 _
      rw [wrn (k + 1) (by omega) (by omega)] at e1
      subst e1
      rw [Int.toNat_natCast] at eI5
      refine ih (k + 1) I5 (by omega) (fun c k2 k5 k9 => by rw [eI5, wt_a _ _ _ _ k9, p1 c k2 k5 k9]) (by rw [eI5, rd_wt_a _ _ _ _ (by omega), p2]) (fun j hj => by rw [eI5, rd_wt_a _ _ _ _ (by omega), p3 j hj]) (fun j hj => ?_)
      by_cases c : j = k
      · subst c
        rw [eI5, rd_wt_s _ _ _ ⟨by omega, by omega⟩]
      · rw [eI5, rd_wt_k _ _ _ _ c, p4 j (by omega)]
  have loop1 : ∀ (d k : Nat) (J : Mm), k + d = 648 → (∀ c, c ≠ B + 5 → J c = I c) → (∀ j, j < k → rd J (B + 5) j = 647 - j) → GoA 59 2 [some (.inr (2, B, 2)), some (.inl (1, (k : Int)))] [] J (rV K) := by
    intro d
    induction d with
    | zero =>
      intro k J hk p1 p3
      have : k = 648 := by omega
      subst this
      refine b_empty_2 hB (inRn (by omega)) ⟨fun _ => ?_, fun z => absurd (by omega) z⟩
      intro I1 eI1
      exact loop2 348 0 I1 (by omega) (fun c k2 k5 k9 => by rw [eI1, wt_a _ _ _ _ k2, p1 c k5]) (by rw [eI1, rd_wt_s _ _ _ ⟨by omega, by omega⟩]) (fun j hj => by rw [eI1, rd_wt_a _ _ _ _ (by omega), p3 j hj]) (fun j hj => absurd hj (by omega))
    | succ d ih =>
      intro k J hk p1 p3
      refine b_empty_2 hB (inRn (by omega)) ⟨fun z => absurd z (by omega), fun _ => ⟨by omega, ?_⟩⟩
      intro I5 eI5 v1 e1 _
      rw [wrn (k + 1) (by omega) (by omega)] at e1
      subst e1
      rw [Int.toNat_natCast] at eI5
      refine ih (k + 1) I5 (by omega) (fun c k5 => by rw [eI5, wt_a _ _ _ _ k5, p1 c k5]) (fun j hj => ?_)
      by_cases c : j = k
      · subst c
        rw [eI5, rd_wt_s _ _ _ ⟨by omega, by omega⟩]
      · rw [eI5, rd_wt_k _ _ _ _ c, p3 j (by omega)]
  exact callV_of rfl (b_empty hB (loop1 648 0 I (by omega) (fun _ _ => rfl) (fun j hj => absurd hj (by omega))))
theorem c_height {B : Nat} {T : TS E} {I : Mm} {K : Int → Mm → Prop} (hB : isX B) (hT : TreeC I B T) (hg : good T) (hl : (lsT T).length ≤ 648)
    (hK : K ((T.1 + 1 : Nat) : Int) I) : CallZ 62 [.inr (2, B, 2)] I K := by
  obtain ⟨h, T2⟩ := T
  obtain ⟨r, hC, hT2, hW⟩ := hT
  have hh : h ≤ 5 := ht_good hg (by omega)
  have hC0 : TrC I B h r := hC
  obtain ⟨t1, t2, t3, t4, t5, t6, t7⟩ := hC0
  have loop : ∀ (g l n : Nat), l + g = h → wfT (fun m => m < 348) (nsC I B) g n → GoA 62 7 [some (.inr (2, B, 2)), some (.inl (1, (n : Int))), some (.inl (1, ((l + 1 : Nat) : Int)))] [] I (rZ K) := by
    intro g
    induction g with
    | zero =>
      intro l n hl wn
      have nv : n < 348 := wn.1
      obtain ⟨c0, hc0, hc1, hc2⟩ := kids0 wn
      have r0 := (tcs_get (I := I) (B := B) hc0).1
      rw [hc1 rfl] at r0
      refine b_height_7 hB (inRn (by omega)) (inRn (by omega)) ⟨fun z => absurd z (by omega), fun _ => ?_⟩
      rw [wrn (6 * n) (by omega) (by omega), Int.toNat_natCast, show rd I (B + 7) (6 * n) = -1 from r0]
      have e : l = h := by omega
      subst e
      exact ⟨by omega, fun _ => hK, fun z => absurd rfl z⟩
    | succ g ih =>
      intro l n hl wn
      have nv : n < 348 := wn.1
      obtain ⟨c0, hc0, hc1, hc2⟩ := kids0 wn
      have r0 := (tcs_get (I := I) (B := B) hc0).1
      have c0p := hc2 (by omega)
      have wc := (wn.2.2 c0 (List.mem_of_getElem? hc0)).2
      refine b_height_7 hB (inRn (by omega)) (inRn (by omega)) ⟨fun z => absurd z (by omega), fun _ => ?_⟩
      rw [wrn (6 * n) (by omega) (by omega), Int.toNat_natCast, show rd I (B + 7) (6 * n) = c0 from r0]
      refine ⟨by omega, fun z => absurd z (by omega), fun _ => ⟨by omega, ?_⟩⟩
      intro v1 e1 _ v2 e2 _
      rw [wrn (l + 1 + 1) (by omega) (by omega)] at e2
      obtain ⟨c, hc⟩ : ∃ c : Nat, c0 = (c : Int) := ⟨c0.toNat, by omega⟩
      subst hc
      subst e1; subst e2
      rw [Int.toNat_natCast] at wc
      exact ih (l + 1) c (by omega) wc
  refine callZ_of rfl (b_height hB ?_)
  intro v1 e1 _
  rw [t2] at e1
  subst e1
  exact loop h 0 r (by omega) t5
set_option maxHeartbeats 4000000 in
theorem nf_step {B n s : Nat} {I : Mm} {rt : AR → Mm → Prop} {ft fi le lo : Int} {at' : Nat} {lf : Int} {m6 m7 : Option AV} (hB : isX B) (hft : inR ft) (hfi : inR fi) (hle : inR le) (hlo : inR lo) (hm6 : okO m6) (hm7 : okO m7) (hlt : (at' : Int) < fi) (h348 : at' < 348) (hq : rd I (B + 14) at' = n) (nv : n < 348) (hs : rd I (B + 8) n = s) (hs4 : s ≤ 4) (hs2 : 2 ≤ s ∨ rd I (B + 2) 8 = n) (hlf : (rd I (B + 7) (6 * n) = -1 ∧ lf = 1) ∨ (¬ rd I (B + 7) (6 * n) = -1 ∧ lf = 0)) (hlo2 : ¬ (at' : Int) = le → lo = lf)
    (h : ∀ le', ((at' : Int) = le → le' = fi) → (¬ (at' : Int) = le → le' = le) → inR le' → GoA 84 111 [some (.inr (2, B, 2)), some (.inl (1, ft)), some (.inl (1, fi)), some (.inl (1, le')), some (.inl (1, lf)), some (.inl (1, (at' : Int))), some (.inl (1, (n : Int))), some (.inl (1, 0))] [] I rt) :
    GoA 84 29 [some (.inr (2, B, 2)), some (.inl (1, ft)), some (.inl (1, fi)), some (.inl (1, le)), some (.inl (1, lo)), some (.inl (1, (at' : Int))), m6, m7] [] I rt := by
  refine b_nodeFaults_29 hB hft hfi hle hlo (inRn (by omega)) hm6 hm7 ⟨fun z => absurd z (by omega), fun _ => ⟨by omega, ?_⟩⟩
  intro v6 e6 i6
  rw [Int.toNat_natCast, hq] at e6
  subst e6
  rw [wrn (6 * n) (by omega) (by omega), Int.toNat_natCast, Int.toNat_natCast, hs]
  refine ⟨fun ea => ?_, fun ea => ?_⟩
  · intro v3 e3 i3
    rw [e3]
    have hh := h fi (fun _ => rfl) (fun z => absurd ea z) hfi
    refine ⟨by omega, fun z => ?_, fun z => ?_⟩
    · have l1 : lf = 1 := by rcases hlf with a | a; exact a.2; exact absurd z a.1
      subst l1
      refine ⟨by omega, fun z4 => absurd z4 (by omega), fun _ => ⟨by omega, fun _ => ⟨by omega, fun _ => hh, fun z => absurd (by assumption) z⟩, fun z2 => ⟨fun _ => ⟨by omega, fun _ => hh, fun z => absurd (by assumption) z⟩, fun z5 => ?_⟩⟩⟩
      rcases hs2 with a | a
      · exact absurd (by omega) z2
      · exact absurd a.symm z5
    · have l1 : lf = 0 := by rcases hlf with a | a; exact absurd a.1 z; exact a.2
      subst l1
      refine ⟨by omega, fun z4 => absurd z4 (by omega), fun _ => ⟨by omega, fun _ => ⟨by omega, fun z6 => absurd z6 z, fun _ => hh⟩, fun z2 => ⟨fun _ => ⟨by omega, fun z6 => absurd z6 z, fun _ => hh⟩, fun z5 => ?_⟩⟩⟩
      rcases hs2 with a | a
      · exact absurd (by omega) z2
      · exact absurd a.symm z5
  · have hh := h le (fun z => absurd z ea) (fun _ => rfl) hle
    have lol := hlo2 ea
    subst lol
    refine ⟨by omega, fun z4 => absurd z4 (by omega), fun _ => ⟨by omega, fun _ => ⟨by omega, fun z => ⟨fun _ => hh, fun z7 => ?_⟩, fun z => ⟨fun _ => hh, fun z7 => ?_⟩⟩, fun z2 => ⟨fun _ => ⟨by omega, fun z => ⟨fun _ => hh, fun z7 => ?_⟩, fun z => ⟨fun _ => hh, fun z7 => ?_⟩⟩, fun z5 => ?_⟩⟩⟩
    · rcases hlf with a | a
      · exact absurd a.2.symm z7
      · exact absurd z a.1
    · rcases hlf with a | a
      · exact absurd a.1 z
      · exact absurd a.2.symm z7
    · rcases hlf with a | a
      · exact absurd a.2.symm z7
      · exact absurd z a.1
    · rcases hlf with a | a
      · exact absurd a.1 z
      · exact absurd a.2.symm z7
    · rcases hs2 with a | a
      · exact absurd (by omega) z2
      · exact absurd a.symm z5
/-- what is still to come under a row of nodes of one height -/
def und (ns : Nat → List Int × List Int) (g : Nat) (Y : List Int) : Nat := (Y.map (fun n => (fpT ns g n.toNat).length - 1)).sum
theorem und_cons (ns : Nat → List Int × List Int) (g : Nat) (y : Int) (Y : List Int) : und ns g (y :: Y) = ((fpT ns g y.toNat).length - 1) + und ns g Y := by
  unfold und; rw [List.map_cons, List.sum_cons]
theorem und_app (ns : Nat → List Int × List Int) (g : Nat) (Y Z : List Int) : und ns g (Y ++ Z) = und ns g Y + und ns g Z := by
  unfold und; rw [List.map_append, List.sum_append]
theorem und_kids (ns : Nat → List Int × List Int) (g n : Nat) : (fpT ns (g + 1) n).length - 1 = (ns n).2.length + und ns g (ns n).2 := by
  show ((ns n).2.flatMap (fun c => fpT ns g c.toNat)).length + 1 - 1 = _
  rw [List.length_flatMap]
  unfold und
  have : ∀ l : List Int, (l.map (fun c => (fpT ns g c.toNat).length)).sum = l.length + (l.map (fun n => (fpT ns g n.toNat).length - 1)).sum := by
    intro l
    induction l with
    | nil => rfl
    | cons a l ih =>
      simp only [List.map_cons, List.sum_cons, List.length_cons]
      have : 1 ≤ (fpT ns g a.toNat).length := List.length_pos_of_mem (fpT_self ns g a.toNat)
      omega
  rw [this]
  omega
theorem und_0 (ns : Nat → List Int × List Int) : ∀ (Y : List Int), und ns 0 Y = 0
  | [] => rfl
  | y :: Y => by rw [und_cons, und_0 ns Y]; rfl
/-- a row of nodes of one height -/
def rowOK (I : Mm) (B r g : Nat) (Y : List Int) : Prop := ∀ y ∈ Y, 0 ≤ y ∧ wfT (fun m => m < 348) (nsC I B) g y.toNat ∧ (rd I (B + 8) y.toNat ≤ 4) ∧ (2 ≤ rd I (B + 8) y.toNat ∨ y.toNat = r) ∧ ∀ m ∈ fpT (nsC I B) g y.toNat, m ≠ y.toNat → 2 ≤ (nsC I B m).1.length ∧ (nsC I B m).1.length ≤ 4
theorem row_kids {I : Mm} {B r g n : Nat} (hw : wfT (fun m => m < 348) (nsC I B) (g + 1) n) (nd : (fpT (nsC I B) (g + 1) n).Nodup) (hf : ∀ m ∈ fpT (nsC I B) (g + 1) n, m ≠ n → 2 ≤ (nsC I B m).1.length ∧ (nsC I B m).1.length ≤ 4) (hsz : szOK I B) : rowOK I B r g (nsC I B n).2 := by
  intro y hy
  obtain ⟨y0, wy⟩ := hw.2.2 y hy
  have yv : y.toNat < 348 := wfT_V wy _ (fpT_self _ _ _)
  have yin : y.toNat ∈ fpT (nsC I B) (g + 1) n := fpT_kid hy (fpT_self _ _ _)
  have yne : ∀ m ∈ fpT (nsC I B) g y.toNat, m ≠ n := fun m hm z => (fp_nd_kid nd hy).2 (z ▸ hm)
  have f := hf _ yin (yne _ (fpT_self _ _ _))
  have e : (nsC I B y.toNat).1.length = (rd I (B + 8) y.toNat).toNat := tks_len _ _ _
  have s := hsz _ yv
  refine ⟨y0, wy, by omega, Or.inl (by omega), fun m hm _ => hf m (fpT_kid hy hm) (yne m hm)⟩
set_option maxHeartbeats 4000000 in
theorem c_nodeFaults {B : Nat} {T : TS E} {I : Mm} {K : Int → Mm → Prop} (hB : isX B) (hT : TreeC I B T) (hg : good T) (hl : (lsT T).length ≤ 648)
    (hK : ∀ I' : Mm, (∀ c, c ≠ B + 14 → I' c = I c) → K 0 I') : CallZ 84 [.inr (2, B, 2)] I K := by
  obtain ⟨h, T2⟩ := T
  obtain ⟨r, hC, hT2, hW⟩ := hT
  have hC0 : TrC I B h r := hC
  simp only at hT2
  have c7 := trC_c7 hC0
  obtain ⟨t1, t2, t3, t4, t5, t6, t7⟩ := hC0
  have filN : fil h (rtA h) 4 (mkT (nsC I B) h r) := fil_map (f := ent I B) (by rw [← hT2]; exact hg.1)
  have rv : r < 348 := wfT_V t5 r (fpT_self _ _ _)
  have nN : (fpT (nsC I B) h r).length = ndT h (mkT (nsC I B) h r) := fpT_nd _ _ _
  have ndN := trC_nd (show TrC I B h r from ⟨t1, t2, t3, t4, t5, t6, t7⟩)
  have N348 : (fpT (nsC I B) h r).length ≤ 348 := by omega
  -- the kids of a node are put behind
  have fill : ∀ (e k n : Nat) (J : Mm) (fi : Nat) (ft le lo ax : Int) (s : Nat), k + e = s + 1 → inR ft → inR le → inR lo → inR ax → inR (ax + 1) → n < 348 → rd I (B + 8) n = s → s ≤ 4 → ¬ rd I (B + 7) (6 * n) = -1 → (∀ c, c ≠ B + 14 → J c = I c) → fi + e ≤ 348 →
      (∀ (J' : Mm) (m6 m7 : Option AV), okO m6 → okO m7 → (∀ c, c ≠ B + 14 → J' c = I c) → (∀ j, j < fi → rd J' (B + 14) j = rd J (B + 14) j) → (∀ j, j < e → rd J' (B + 14) (fi + j) = rd I (B + 7) (6 * n + (k + j))) → GoA 84 29 [some (.inr (2, B, 2)), some (.inl (1, ft)), some (.inl (1, ((fi + e : Nat) : Int))), some (.inl (1, le)), some (.inl (1, lo)), some (.inl (1, ax + 1)), m6, m7] [] J' (rZ K)) →
      GoA 84 111 [some (.inr (2, B, 2)), some (.inl (1, ft)), some (.inl (1, (fi : Int))), some (.inl (1, le)), some (.inl (1, lo)), some (.inl (1, ax)), some (.inl (1, (n : Int))), some (.inl (1, (k : Int)))] [] J (rZ K) := by
    intro e
    induction e with
    | zero =>
      intro k n J fi ft le lo ax s hk i1 i2 i3 i4 i5 nv hs s4 inn fr hb hc
      refine b_nodeFaults_111 hB i1 (inRn (by omega)) i2 i3 i4 (inRn (by omega)) (inRn (by omega)) ⟨by omega, fun _ => ?_, fun z => ?_⟩
      · intro v5 e5 i5'
        rw [wr_of i5] at e5
        subst e5
        exact hc J _ _ (okO_s (okF_1 (inRn (by omega)) 1)) (okO_s (okF_1 (inRn (by omega)) 1)) fr (fun _ _ => rfl) (fun j hj => absurd hj (by omega))
      · rw [Int.toNat_natCast, rd_of (fr _ (by omega)), hs] at z
        exact absurd (by omega) z
    | succ e ih =>
      intro k n J fi ft le lo ax s hk i1 i2 i3 i4 i5 nv hs s4 inn fr hb hc
      refine b_nodeFaults_111 hB i1 (inRn (by omega)) i2 i3 i4 (inRn (by omega)) (inRn (by omega)) ⟨by omega, fun z => ?_, fun _ => ?_⟩
      · rw [Int.toNat_natCast, rd_of (fr _ (by omega)), hs] at z
        exact absurd z (by omega)
      · have w7 : wr (((n : Int) * 6) + (k : Int)) = ((6 * n + k : Nat) : Int) := wrn _ (by omega) (by omega)
        rw [wrn (6 * n) (by omega) (by omega), w7, Int.toNat_natCast, Int.toNat_natCast, rd_of (fr _ (by omega)), rd_of (fr _ (by omega))]
        refine ⟨by omega, fun z => absurd z inn, fun _ => ⟨fun z => absurd z (by omega), fun _ => ⟨by omega, by omega, ?_⟩⟩⟩
        intro I1 eI1 v2 e2 _ v7 e7 _
        rw [wrn (fi + 1) (by omega) (by omega)] at e2
        rw [wrn (k + 1) (by omega) (by omega)] at e7
        subst e2; subst e7
        rw [Int.toNat_natCast] at eI1
        refine ih (k + 1) n I1 (fi + 1) ft le lo ax s (by omega) i1 i2 i3 i4 i5 nv hs s4 inn (fun c k14 => by rw [eI1, wt_a _ _ _ _ k14, fr c k14]) (by omega) ?_
        intro J' m6 m7 o6 o7 x1 x2 x3
        have := hc J' m6 m7 o6 o7 x1 (fun j hj => by rw [x2 j (by omega), eI1, rd_wt_k _ _ _ _ (by omega)]) (fun j hj => by
          cases j with
          | zero =>
            show rd J' (B + 14) fi = rd I (B + 7) (6 * n + k)
            rw [x2 fi (by omega), eI1, rd_wt_s _ _ _ (rd_in _ _ _)]
          | succ j => rw [show fi + (j + 1) = fi + 1 + j by omega, x3 j (by omega), show k + 1 + j = k + (j + 1) by omega])
        rw [show fi + (e + 1) = fi + 1 + e by omega] at this
        exact this
  -- node by node
  have main : ∀ (M g ax fi : Nat) (le lo : Int) (Y Z : List Int) (J : Mm) (m6 m7 : Option AV), okO m6 → okO m7 → inR lo → Y.length + und (nsC I B) g Y + (Z.length + und (nsC I B) (g - 1) Z) = M → (g = 0 → Z = []) → rowOK I B r g Y → rowOK I B r (g - 1) Z → (∀ y ∈ Y, (fpT (nsC I B) g y.toNat).Nodup) → (∀ y ∈ Z, (fpT (nsC I B) (g - 1) y.toNat).Nodup) → (∀ c, c ≠ B + 14 → J c = I c) → le = ((ax + Y.length : Nat) : Int) → fi = ax + Y.length + Z.length → ax + M = (fpT (nsC I B) h r).length →
      (∀ j x, (Y ++ Z)[j]? = some x → rd J (B + 14) (ax + j) = x) → (Y ≠ [] → lo = if g = 0 then 1 else 0) →
      GoA 84 29 [some (.inr (2, B, 2)), some (.inl (1, 0)), some (.inl (1, (fi : Int))), some (.inl (1, le)), some (.inl (1, lo)), some (.inl (1, (ax : Int))), m6, m7] [] J (rZ K) := by
    intro M
    induction M using Nat.strongRecOn with
    | ind M ih =>
      intro g ax fi le lo Y Z J m6 m7 o6 o7 ilo hM hgZ rwY rwZ nY nZ fr hle hfi hax hq hlo
      -- one node
      have one : ∀ (g : Nat) (y : Int) (Y' Z' : List Int) (le' : Int), le' = ((ax + 1 + Y'.length : Nat) : Int) → (Y'.length + 1) + und (nsC I B) g (y :: Y') + (Z'.length + und (nsC I B) (g - 1) Z') = M → (g = 0 → Z' = []) → rowOK I B r g (y :: Y') → rowOK I B r (g - 1) Z' → (∀ x ∈ y :: Y', (fpT (nsC I B) g x.toNat).Nodup) → (∀ x ∈ Z', (fpT (nsC I B) (g - 1) x.toNat).Nodup) → fi = ax + 1 + Y'.length + Z'.length → (∀ j x, ((y :: Y') ++ Z')[j]? = some x → rd J (B + 14) (ax + j) = x) → ((ax : Int) = le → le' = fi) → (¬ (ax : Int) = le → le' = le) → (¬ (ax : Int) = le → lo = if g = 0 then 1 else 0) →
          GoA 84 29 [some (.inr (2, B, 2)), some (.inl (1, 0)), some (.inl (1, (fi : Int))), some (.inl (1, le)), some (.inl (1, lo)), some (.inl (1, (ax : Int))), m6, m7] [] J (rZ K) := by
        intro g y Y' Z' le' hle' hM hgZ rwY rwZ nY nZ hfi hq l1 l2 l3
        obtain ⟨y0, wy, s4, s2, sub⟩ := rwY y List.mem_cons_self
        have ndy := nY y List.mem_cons_self
        obtain ⟨n, hn⟩ : ∃ n : Nat, y = (n : Int) := ⟨y.toNat, by omega⟩
        subst hn
        rw [Int.toNat_natCast] at wy s4 s2 sub ndy
        have nv : n < 348 := wfT_V wy n (fpT_self _ _ _)
        obtain ⟨s, hs⟩ : ∃ s : Nat, rd I (B + 8) n = s := ⟨(rd I (B + 8) n).toNat, by have := t1 n nv; omega⟩
        have hq0 := hq 0 (n : Int) rfl
        rw [Nat.add_zero] at hq0
        obtain ⟨c0, hc0, hc1, hc2⟩ := kids0 wy
        have r0 : rd I (B + 7) (6 * n) = c0 := (tcs_get (I := I) (B := B) hc0).1
        rw [und_cons, Int.toNat_natCast] at hM
        refine nf_step (lf := if g = 0 then 1 else 0) (n := n) (s := s) hB (inRx (by omega) (by omega)) (inRn (by omega)) (by rw [hle]; exact inRn (by omega)) ilo o6 o7 (by omega) (by omega) hq0 nv (by rw [rd_of (fr _ (by omega)), hs]) (by omega) (by rw [rd_of (fr _ (by omega)), t2]; rcases s2 with a | a; exact Or.inl (by omega); exact Or.inr (by rw [a])) (by
          rw [rd_of (fr _ (by omega)), r0]
          by_cases g0 : g = 0
          · exact Or.inl ⟨hc1 g0, if_pos g0⟩
          · exact Or.inr ⟨by have := hc2 g0; omega, if_neg g0⟩) l3 ?_
        intro le2 a1 a2 ile2
        have e2 : le2 = le' := by
          by_cases c : (ax : Int) = le
          · rw [a1 c, l1 c]
          · rw [a2 c, l2 c]
        subst e2
        have rwY' : rowOK I B r g Y' := fun x hx => rwY x (List.mem_cons_of_mem _ hx)
        have nY' : ∀ x ∈ Y', (fpT (nsC I B) g x.toNat).Nodup := fun x hx => nY x (List.mem_cons_of_mem _ hx)
        by_cases g0 : g = 0
        · subst g0
          rw [if_pos rfl]
          have hZ0 := hgZ rfl
          subst hZ0
          have r7 : rd I (B + 7) (6 * n) = -1 := by rw [r0, hc1 rfl]
          refine b_nodeFaults_111 hB (inRx (by omega) (by omega)) (inRn (by omega)) ile2 (inRx (by omega) (by omega)) (inRn (by omega)) (inRn (by omega)) (inRx (by omega) (by omega)) ⟨by omega, fun z => ?_, fun _ => ?_⟩
          · rw [Int.toNat_natCast, rd_of (fr _ (by omega)), hs] at z
            exact absurd z (by omega)
          · rw [wrn (6 * n) (by omega) (by omega), Int.toNat_natCast, rd_of (fr _ (by omega)), r7]
            refine ⟨by omega, fun _ => ?_, fun z => absurd rfl z⟩
            intro v5 e5 _
            rw [wrn (ax + 1) (by omega) (by omega)] at e5
            subst e5
            have l0 : (fpT (nsC I B) 0 n).length = 1 := rfl
            refine ih (M - 1) (by omega) 0 (ax + 1) fi le2 1 Y' [] J _ _ (okO_s (okF_1 (inRn (by omega)) 1)) (okO_s (okF_1 (inRx (by omega) (by omega)) 1)) (inRx (by omega) (by omega)) (by omega) (fun _ => rfl) rwY' (fun x hx => by cases hx) nY' (fun x hx => by cases hx) fr (by rw [hle']) (by rw [hfi]) (by omega) ?_ (fun _ => (if_pos rfl).symm)
            intro j x hx
            have := hq (j + 1) x (by simpa using hx)
            rw [show ax + (j + 1) = ax + 1 + j by omega] at this
            exact this
        · obtain ⟨g', rfl⟩ : ∃ g', g = g' + 1 := ⟨g - 1, by omega⟩
          rw [if_neg g0]
          rw [show g' + 1 - 1 = g' by omega] at hM rwZ nZ
          have uk := und_kids (nsC I B) g' n
          have kl : (nsC I B n).2.length = s + 1 := by
            show (tcs I B n).length = _
            rw [tcs_len, hs, Int.toNat_natCast]
          refine fill (s + 1) 0 n J fi 0 le2 0 (ax : Int) s (by omega) (inRx (by omega) (by omega)) ile2 (inRx (by omega) (by omega)) (inRn (by omega)) (inRx (by omega) (by omega)) nv hs (by omega) (by rw [r0]; have := hc2 g0; omega) fr (by omega) ?_
          intro J' w6 w7 p6 p7 x1 x2 x3
          have kr := row_kids (r := r) wy ndy sub t1
          have := ih (M - 1) (by omega) (g' + 1) (ax + 1) (fi + (s + 1)) le2 0 Y' (Z' ++ (nsC I B n).2) J' w6 w7 p6 p7 (inRx (by omega) (by omega)) (by rw [List.length_append, show g' + 1 - 1 = g' by omega, und_app, kl]; omega) (fun z => absurd z (by omega)) rwY' (by
            rw [show g' + 1 - 1 = g' by omega]
            intro x hx
            rcases List.mem_append.mp hx with a | a
            · exact rwZ x a
            · exact kr x a) nY' (by
            rw [show g' + 1 - 1 = g' by omega]
            intro x hx
            rcases List.mem_append.mp hx with a | a
            · exact nZ x a
            · exact (fp_nd_kid ndy a).1) x1 (by rw [hle']) (by rw [List.length_append, kl, hfi]; omega) (by omega) (by
            intro j x hx
            rw [← List.append_assoc] at hx
            by_cases cj : j < (Y' ++ Z').length
            · rw [List.getElem?_append_left cj] at hx
              rw [List.length_append] at cj
              rw [x2 _ (by omega), show ax + 1 + j = ax + (j + 1) by omega]
              exact hq (j + 1) x (by simpa using hx)
            · rw [List.getElem?_append_right (by omega)] at hx
              have cl := (List.getElem?_eq_some_iff.mp hx).1
              rw [List.length_append] at cj cl hx
              rw [show ax + 1 + j = fi + (j - (Y'.length + Z'.length)) by omega, x3 _ (by omega), Nat.zero_add]
              exact (tcs_get (I := I) (B := B) hx).1) (fun _ => (if_neg (by omega)).symm)
          exact this
      cases Y with
      | cons y Y' =>
        refine one g y Y' Z le (by rw [hle, List.length_cons]; omega) (by rw [List.length_cons] at hM; exact hM) hgZ rwY rwZ nY nZ (by rw [hfi, List.length_cons]; omega) hq (fun z => ?_) (fun _ => rfl) (fun _ => hlo (by simp))
        rw [hle, List.length_cons] at z
        omega
      | nil =>
        rw [List.length_nil, Nat.add_zero] at hle hfi
        cases Z with
        | nil =>
          rw [List.length_nil, Nat.add_zero] at hfi
          subst hfi
          have M0 : M = 0 := by rw [← hM]; rfl
          refine b_nodeFaults_29 hB (inRx (by omega) (by omega)) (inRn (by omega)) (by rw [hle]; exact inRn (by omega)) ilo (inRn (by omega)) o6 o7 ⟨fun _ => ?_, fun z => absurd (by omega) z⟩
          have r7 : rd J (B + 2) 7 = 348 - ((fpT (nsC I B) h r).length : Int) := by rw [rd_of (fr _ (by omega)), c7, nN]
          rw [r7, wrx (by omega) (by omega)]
          refine ⟨fun _ => hK J fr, fun z => absurd (by omega) z⟩
        | cons z Z' =>
          have gp : g ≠ 0 := fun c => by have := hgZ c; cases this
          refine one (g - 1) z Z' [] (fi : Int) (by rw [hfi, List.length_cons]; omega) ?_ (fun _ => rfl) rwZ (fun x hx => by cases hx) nZ (fun x hx => by cases hx) (by rw [hfi, List.length_cons]; simp; omega) ?_ (fun _ => rfl) (fun c => absurd hle.symm c) (fun c => absurd hle.symm c)
          · have e1 : und (nsC I B) g [] = 0 := rfl
            have e2 : und (nsC I B) (g - 1 - 1) [] = 0 := rfl
            rw [List.length_nil, List.length_cons, e1] at hM
            rw [List.length_nil, e2]
            omega
          · intro j x hx
            rw [List.append_nil] at hx
            exact hq j x (by rw [List.nil_append]; exact hx)
  refine callZ_of rfl (b_nodeFaults hB ?_)
  obtain ⟨c0, hc0, hc1, hc2⟩ := kids0 t5
  have r0 : rd I (B + 7) (6 * r) = c0 := (tcs_get (I := I) (B := B) hc0).1
  rw [t2, wrn (6 * r) (by omega) (by omega), Int.toNat_natCast, r0]
  have lenr : (nsC I B r).1.length = (rd I (B + 8) r).toNat := tks_len _ _ _
  have h4 := fil_nodes (Nat.le_refl 4) filN
  have rrow : rowOK I B r h [(r : Int)] := by
    intro y hy
    have e := List.mem_singleton.mp hy
    subst e
    rw [Int.toNat_natCast]
    have := h4 r (fpT_self _ _ _)
    have sr := t1 r rv
    exact ⟨by omega, t5, by omega, Or.inr rfl, fun m hm hne => ⟨fil_low2 filN m hm hne, h4 m hm⟩⟩
  have start : ∀ (lo : Int) (I2 : Mm), inR lo → lo = (if h = 0 then 1 else 0) → I2 = wt I (B + 14) 0 r → GoA 84 29 [some (.inr (2, B, 2)), some (.inl (1, 0)), some (.inl (1, ((1 : Nat) : Int))), some (.inl (1, ((1 : Nat) : Int))), some (.inl (1, lo)), some (.inl (1, ((0 : Nat) : Int))), none, none] [] I2 (rZ K) := by
    intro lo I2 ilo hlo eI2
    refine main (fpT (nsC I B) h r).length h 0 1 1 lo [(r : Int)] [] I2 none none okO_n okO_n ilo ?_ (fun _ => rfl) rrow (fun x hx => by cases hx) (fun y hy => by rw [List.mem_singleton.mp hy, Int.toNat_natCast]; exact ndN) (fun x hx => by cases hx) (fun c k14 => by rw [eI2, wt_a _ _ _ _ k14]) rfl rfl (by omega) ?_ (fun _ => hlo)
    · rw [und_cons, Int.toNat_natCast]
      have : 1 ≤ (fpT (nsC I B) h r).length := List.length_pos_of_mem (fpT_self _ _ _)
      show 1 + (_ + 0) + (0 + 0) = _
      omega
    · intro j x hx
      have j0 : j = 0 := by
        have := (List.getElem?_eq_some_iff.mp hx).1
        simp at this
        omega
      subst j0
      simp at hx
      rw [← hx, eI2, rd_wt_s _ _ _ (inRn (by omega))]
  refine ⟨by omega, fun z => ⟨by omega, fun I2 eI2 => ?_⟩, fun z => ⟨by omega, fun I2 eI2 => ?_⟩⟩
  · refine start 1 I2 (inRx (by omega) (by omega)) ?_ eI2
    by_cases h0 : h = 0
    · rw [if_pos h0]
    · have := hc2 h0; omega
  · refine start 0 I2 (inRx (by omega) (by omega)) ?_ eI2
    by_cases h0 : h = 0
    · exact absurd (hc1 h0) z
    · rw [if_neg h0]
set_option maxHeartbeats 4000000 in
theorem c_tfaults {B : Nat} {T : TS E} {I : Mm} {K : Int → Mm → Prop} (hB : isX B) (hT : TreeC I B T) (hg : good T) (hl : (lsT T).length ≤ 648)
    (hK : ∀ I' : Mm, (∀ c, c ≠ B + 2 → c ≠ B + 10 → c ≠ B + 11 → c ≠ B + 12 → c ≠ B + 13 → c ≠ B + 14 → I' c = I c) → TreeC I' B T → K 0 I') : CallZ 83 [.inr (2, B, 2)] I K := by
  refine callZ_of rfl (b_tfaults hB ?_)
  refine c_walkAll hB hT hg hl (fun I1 fr hT1 hw1 => ?_)
  have hT1' := hT1
  obtain ⟨r, hC, hT2, hW⟩ := hT1
  obtain ⟨a, b, c⟩ := hW hw1
  have c2 := trC_c2 hC
  have len2 : (inT T.1 (mkT (nsC I1 B) T.1 r)).length = (lsT T).length := by
    show _ = (inT T.1 T.2).length
    rw [hT2, inT_map, List.length_map]
  have hsort : (inT T.1 (mkT (nsC I1 B) T.1 r)).map (ent I1 B) = lsT T := by
    show _ = inT T.1 T.2
    rw [hT2, inT_map]
  rw [len2] at a c2
  have loop : ∀ (d p : Nat), 1 ≤ p → p ≤ 648 → ((p + d = (lsT T).length) ∨ ((lsT T).length ≤ p ∧ d = 0)) → GoA 83 23 [some (.inr (2, B, 2)), some (.inl (1, 0)), some (.inl (1, (p : Int)))] [] I1 (rZ K) := by
    intro d
    induction d with
    | zero =>
      intro p hp p648 hd
      refine b_tfaults_23 hB (inRx (by omega) (by omega)) (inRn (by omega)) ⟨fun _ => ?_, fun z => absurd (by rw [a]; omega) z⟩
      refine c_nodeFaults hB hT1' hg hl (fun I2 fr2 => ?_)
      refine hK I2 (fun c k2 k10 k11 k12 k13 k14 => by rw [fr2 c k14, fr c k2 k10 k11 k12 k13]) (treeC_fr (fun c h1 h2 => fr2 c (by omega)) hT1')
    | succ d ih =>
      intro p hp p648 hd
      have pl : p < (lsT T).length := by omega
      refine b_tfaults_23 hB (inRx (by omega) (by omega)) (inRn (by omega)) ⟨fun z => absurd z (by rw [a]; omega), fun _ => ?_⟩
      have hx0 : (inT T.1 (mkT (nsC I1 B) T.1 r))[p - 1]? = some (rd I1 (B + 12) (p - 1)) := by
        rw [← b, seg_get _ _ (by rw [len2]; omega), Nat.zero_add]
      have hx1 : (inT T.1 (mkT (nsC I1 B) T.1 r))[p]? = some (rd I1 (B + 12) p) := by
        rw [← b, seg_get _ _ (by rw [len2]; omega), Nat.zero_add]
      have q0b := ran_mem (hC.2.2.2.2.2.2.mem_iff.mp (List.mem_append_left _ (List.mem_of_getElem? hx0)))
      have q1b := ran_mem (hC.2.2.2.2.2.2.mem_iff.mp (List.mem_append_left _ (List.mem_of_getElem? hx1)))
      obtain ⟨q0, hq0⟩ : ∃ q : Nat, rd I1 (B + 12) (p - 1) = q := ⟨(rd I1 (B + 12) (p - 1)).toNat, by omega⟩
      obtain ⟨q1, hq1⟩ : ∃ q : Nat, rd I1 (B + 12) p = q := ⟨(rd I1 (B + 12) p).toNat, by omega⟩
      rw [wrn (p - 1) (by omega) (by omega), Int.toNat_natCast, Int.toNat_natCast, hq0, hq1]
      refine ⟨by omega, by omega, ?_⟩
      refine c_cmp_3_3 hB (by omega) (by omega) ?_
      have h0 : (lsT T)[p - 1]? = some (ent I1 B (q0 : Int)) := by rw [← hsort, List.getElem?_map, hx0, hq0]; rfl
      have h1 : (lsT T)[p]? = some (ent I1 B (q1 : Int)) := by rw [← hsort, List.getElem?_map, hx1, hq1]; rfl
      have lt : elt (ent I1 B (q0 : Int)) (ent I1 B (q1 : Int)) := by
        have := hg.2
        rw [List.pairwise_iff_getElem] at this
        have g := this (p - 1) p (by omega) pl (by omega)
        rw [(List.getElem?_eq_some_iff.mp h0).2, (List.getElem?_eq_some_iff.mp h1).2] at g
        exact g
      have neg := (ecmp_neg _ _).mpr lt
      unfold ent at neg
      rw [Int.toNat_natCast, Int.toNat_natCast] at neg
      refine ⟨fun _ => ?_, fun z => absurd neg z⟩
      intro v2 e2 _
      rw [wrn (p + 1) (by omega) (by omega)] at e2
      subst e2
      exact ih (p + 1) (by omega) (by omega) (by omega)
  refine ⟨fun _ => loop ((lsT T).length - 1) 1 (by omega) (by omega) (by omega), fun z => ?_⟩
  exact absurd (by rw [a, c2, wrx (by omega) (by omega)]; omega) z
