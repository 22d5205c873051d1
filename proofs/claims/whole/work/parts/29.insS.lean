/-! a node with five is split -/
theorem rep_take {n k : Nat} {x : Int} (h : k ≤ n) : (List.replicate n x).take k = List.replicate k x := by
  rw [List.take_replicate, Nat.min_eq_left h]
theorem mk_half {α : Type} {V : Nat → Prop} {ns ns1 : Nat → List α × List Int} : ∀ {h n r : Nat}, (ns n).1.length = 5 → wfT V ns h n → (fpT ns h n).Nodup → V r → ns1 n = ((ns n).1.take 2, (ns n).2.take 3) → ns1 r = ((ns n).1.drop 3, (ns n).2.drop 3) → (∀ m, m ∈ fpT ns h n → m ≠ n → ns1 m = ns m) →
    mkT ns1 h n = lfT h (mkT ns h n) ∧ mkT ns1 h r = rtT h (mkT ns h n) ∧ wfT V ns1 h n ∧ wfT V ns1 h r ∧ (fpT ns1 h n ++ fpT ns1 h r).Perm (fpT ns h n ++ [r])
  | 0, n, r, h5, hw, hnd, hVr, h1, h2, h3 => by
    have w2 : (ns n).2 = List.replicate 6 (-1) := by rw [hw.2, h5]
    refine ⟨?_, ?_, ⟨hw.1, ?_⟩, ⟨hVr, ?_⟩, List.Perm.refl _⟩
    · show (ns1 n).1 = _
      rw [h1]; rfl
    · show (ns1 r).1 = _
      rw [h2]; rfl
    · rw [h1]
      show (ns n).2.take 3 = List.replicate (((ns n).1.take 2).length + 1) (-1)
      rw [w2, List.length_take, h5]
      rfl
    · rw [h2]
      show (ns n).2.drop 3 = List.replicate (((ns n).1.drop 3).length + 1) (-1)
      rw [w2, List.length_drop, h5]
      rfl
  | h + 1, n, r, h5, hw, hnd, hVr, h1, h2, h3 => by
    obtain ⟨v0, v1, v2⟩ := hw
    have hk : ∀ c ∈ (ns n).2, ∀ m ∈ fpT ns h c.toNat, ns1 m = ns m := by
      intro c hc m hm
      refine h3 m (fpT_kid hc hm) (fun e => ?_)
      exact (fp_nd_kid hnd hc).2 (e ▸ hm)
    have hmk : ∀ c ∈ (ns n).2, mkT ns1 h c.toNat = mkT ns h c.toNat := fun c hc => mkT_congr h _ (hk c hc)
    have hfp : ∀ c ∈ (ns n).2, fpT ns1 h c.toNat = fpT ns h c.toNat := fun c hc => fpT_congr h _ (hk c hc)
    have hwf : ∀ c ∈ (ns n).2, wfT V ns1 h c.toNat := fun c hc => wfT_congr h _ (hk c hc) (v2 c hc).2
    have v6 : (ns n).2.length = 6 := by rw [v1, h5]
    refine ⟨?_, ?_, ?_, ?_, ?_⟩
    · show ((ns1 n).1, (ns1 n).2.map (fun c => mkT ns1 h c.toNat)) = ((ns n).1.take 2, ((ns n).2.map (fun c => mkT ns h c.toNat)).take 3)
      rw [h1, ← List.map_take]
      congr 1
      exact List.map_congr_left (fun c hc => hmk c (List.mem_of_mem_take hc))
    · show ((ns1 r).1, (ns1 r).2.map (fun c => mkT ns1 h c.toNat)) = ((ns n).1.drop 3, ((ns n).2.map (fun c => mkT ns h c.toNat)).drop 3)
      rw [h2, ← List.map_drop]
      congr 1
      exact List.map_congr_left (fun c hc => hmk c (List.mem_of_mem_drop hc))
    · show V n ∧ (ns1 n).2.length = (ns1 n).1.length + 1 ∧ ∀ c ∈ (ns1 n).2, 0 ≤ c ∧ wfT V ns1 h c.toNat
      rw [h1]
      refine ⟨v0, ?_, fun c hc => ⟨(v2 c (List.mem_of_mem_take hc)).1, hwf c (List.mem_of_mem_take hc)⟩⟩
      show ((ns n).2.take 3).length = ((ns n).1.take 2).length + 1
      rw [List.length_take, List.length_take, v6, h5]
      rfl
    · show V r ∧ (ns1 r).2.length = (ns1 r).1.length + 1 ∧ ∀ c ∈ (ns1 r).2, 0 ≤ c ∧ wfT V ns1 h c.toNat
      rw [h2]
      refine ⟨hVr, ?_, fun c hc => ⟨(v2 c (List.mem_of_mem_drop hc)).1, hwf c (List.mem_of_mem_drop hc)⟩⟩
      show ((ns n).2.drop 3).length = ((ns n).1.drop 3).length + 1
      rw [List.length_drop, List.length_drop, v6, h5]
    · show (n :: (ns1 n).2.flatMap (fun c => fpT ns1 h c.toNat) ++ r :: (ns1 r).2.flatMap (fun c => fpT ns1 h c.toNat)).Perm (n :: (ns n).2.flatMap (fun c => fpT ns h c.toNat) ++ [r])
      rw [h1, h2, flat_congr (l := (ns n).2.take 3) (fun c hc => hfp c (List.mem_of_mem_take hc)), flat_congr (l := (ns n).2.drop 3) (fun c hc => hfp c (List.mem_of_mem_drop hc))]
      rw [List.cons_append, List.cons_append]
      refine List.Perm.cons n ?_
      have e : (ns n).2.flatMap (fun c => fpT ns h c.toNat) = ((ns n).2.take 3).flatMap (fun c => fpT ns h c.toNat) ++ ((ns n).2.drop 3).flatMap (fun c => fpT ns h c.toNat) := by
        rw [← List.flatMap_append, List.take_append_drop]
      rw [e, List.append_assoc]
      refine List.Perm.append_left _ ?_
      exact (List.perm_append_singleton r _).symm
section INS
variable {α : Type} {V : Nat → Prop} {ns0 ns ns1 ns2 : Nat → List α × List Int} {s : Nat → Nat} {e x : α} {d n0 i r : Nat} {fr : List Nat}
set_option maxHeartbeats 1000000 in
theorem invA_split (hp : PthOK V ns0 s d n0) (hi : i < d) (hfr : ∀ m ∈ fr, m ∉ fpT ns0 d n0) (hfn : fr.Nodup) (hI : InvA V ns0 ns s e d n0 (i + 1) fr) (h5 : (ns (pthT ns0 s n0 (i + 1))).1.length = 5) (hx : (ns (pthT ns0 s n0 (i + 1))).1[2]? = some x) (hr : V r) (hr1 : r ∉ fr) (hr2 : r ∉ fpT ns0 d n0)
    (h1 : ns1 (pthT ns0 s n0 (i + 1)) = ((ns (pthT ns0 s n0 (i + 1))).1.take 2, (ns (pthT ns0 s n0 (i + 1))).2.take 3)) (h2 : ns1 r = ((ns (pthT ns0 s n0 (i + 1))).1.drop 3, (ns (pthT ns0 s n0 (i + 1))).2.drop 3)) (h3 : ∀ m, V m → m ≠ pthT ns0 s n0 (i + 1) → m ≠ r → ns1 m = ns m)
    (h4 : ns2 (pthT ns0 s n0 i) = (insL (ns1 (pthT ns0 s n0 i)).1 (s i) x, insL (ns1 (pthT ns0 s n0 i)).2 (s i + 1) (r : Int))) (h6 : ∀ m, V m → m ≠ pthT ns0 s n0 i → ns2 m = ns1 m) : InvA V ns0 ns2 s e d n0 i (fr ++ [r]) := by
  obtain ⟨i1, i2, i3, i4⟩ := hI
  obtain ⟨o1, o2⟩ := invA_off hp hi hfr i1
  obtain ⟨w, wn⟩ := pth_wf hp i (by omega)
  obtain ⟨w', wn'⟩ := pth_wf hp (i + 1) (by omega)
  obtain ⟨g, hg⟩ : ∃ g, d - i = g + 1 := ⟨d - i - 1, by omega⟩
  have hg2 : d - (i + 1) = g := by omega
  obtain ⟨c, c0, hc, he, hmem⟩ := pth_kid hp hi
  have hup := fp_up hp i (by omega)
  have hup' := fp_up hp (i + 1) (by omega)
  rw [hg2, he] at i2 i3 i4 w' wn' hup'
  rw [hg2] at o2
  rw [hg] at w wn hup
  rw [he] at h5 hx h1 h2 h3
  have hqn := fp_nd_kid wn hmem
  have hq : pthT ns0 s n0 i ∈ fpT ns0 d n0 := hup _ (fpT_self _ _ _)
  have hn : c.toNat ∈ fpT ns0 d n0 := hup' _ (fpT_self _ _ _)
  have hqn1 : pthT ns0 s n0 i ≠ c.toNat := fun z => hqn.2 (z ▸ fpT_self _ _ _)
  have hqr : pthT ns0 s n0 i ≠ r := fun z => hr2 (z ▸ hq)
  have hnr : c.toNat ≠ r := fun z => hr2 (z ▸ hn)
  have hVq : V (pthT ns0 s n0 i) := wfT_V w _ (fpT_self _ _ _)
  have mem4 : ∀ m, m ∈ fpT ns g c.toNat → m ∈ fpT ns0 g c.toNat ∨ m ∈ fr := fun m hm => List.mem_append.mp (i4.mem_iff.mp hm)
  have hnd : (fpT ns g c.toNat).Nodup := by
    refine i4.nodup_iff.mpr (List.nodup_append.mpr ⟨wn', hfn, fun a ha b hb hab => ?_⟩)
    subst hab
    exact hfr a hb (hup' a ha)
  have hqf : pthT ns0 s n0 i ∉ fpT ns g c.toNat := fun z => (mem4 _ z).elim hqn.2 (fun z => hfr _ z hq)
  have hrf : r ∉ fpT ns g c.toNat := fun z => (mem4 _ z).elim (fun z => hr2 (hup' _ z)) hr1
  obtain ⟨m1, m2, m3, m4, m5⟩ := mk_half (V := V) (r := r) h5 i3 hnd hr h1 h2 (fun m hm hne => h3 m (wfT_V i3 m hm) hne (fun z => hrf (z ▸ hm)))
  have hq1 : ns1 (pthT ns0 s n0 i) = ns0 (pthT ns0 s n0 i) := by rw [h3 _ hVq hqn1 hqr, o1]
  have off : ∀ m, m ∈ fpT ns1 g c.toNat ∨ m ∈ fpT ns1 g r → m ≠ pthT ns0 s n0 i := by
    intro m hm z
    have : m ∈ fpT ns g c.toNat ++ [r] := m5.mem_iff.mp (List.mem_append.mpr hm)
    rcases List.mem_append.mp this with hz | hz
    · exact hqf (z ▸ hz)
    · exact hqr (z ▸ List.mem_singleton.mp hz)
  have cn : ∀ m ∈ fpT ns1 g c.toNat, ns2 m = ns1 m := fun m hm => h6 m (wfT_V m3 m hm) (off m (Or.inl hm))
  have cr : ∀ m ∈ fpT ns1 g r, ns2 m = ns1 m := fun m hm => h6 m (wfT_V m4 m hm) (off m (Or.inr hm))
  have co : ∀ k c', (ns0 (pthT ns0 s n0 i)).2[k]? = some c' → k ≠ s i → ∀ m ∈ fpT ns0 g c'.toNat, ns2 m = ns0 m := by
    intro k c' hk hne m hm
    have hmq : m ∈ fpT ns0 (g + 1) (pthT ns0 s n0 i) := fpT_kid (List.mem_of_getElem? hk) hm
    have hV : V m := wfT_V w m hmq
    have a1 : m ≠ pthT ns0 s n0 i := fun z => (fp_nd_kid wn (List.mem_of_getElem? hk)).2 (z ▸ hm)
    have a2 : m ≠ c.toNat := fun z => nd_flat (List.nodup_cons.mp wn).2 hk hc hne m hm (z ▸ fpT_self _ _ _)
    have a3 : m ≠ r := fun z => hr2 (z ▸ hup m hmq)
    rw [h6 m hV a1, h3 m hV a2 a3, o2 k c' hk hne m hm]
  rw [hq1] at h4
  have hkl : s i < (ns0 (pthT ns0 s n0 i)).2.length := (List.getElem?_eq_some_iff.mp hc).1
  unfold InvA
  rw [hg]
  refine ⟨?_, ?_, ?_, ?_⟩
  · intro m hm hf hj
    have hf1 : m ∉ fr := fun z => hf (List.mem_append_left _ z)
    have hf2 : m ≠ r := fun z => hf (z ▸ List.mem_append_right _ (List.mem_singleton.mpr rfl))
    have a1 := hj i (Nat.le_refl _) (by omega)
    have a2 := hj (i + 1) (by omega) (by omega)
    rw [he] at a2
    rw [h6 m hm a1, h3 m hm a2 hf2]
    exact i1 m hm hf1 (fun j h1 h2 => hj j (by omega) h2)
  · have e1 : (mkT ns0 (g + 1) (pthT ns0 s n0 i)).2[s i]? = some (mkT ns0 g c.toNat) := by
      show ((ns0 _).2.map (fun c => mkT ns0 g c.toNat))[s i]? = _
      rw [List.getElem?_map, hc]
      rfl
    have e2 : (kyT g (insP s e g (i + 1) (mkT ns0 g c.toNat)))[4]? = some ((ns c.toNat).1[4]'(by omega)) := by
      rw [← i2, kyT_mk]
      exact List.getElem?_eq_getElem (by omega)
    have e3 : (kyT g (insP s e g (i + 1) (mkT ns0 g c.toNat)))[2]? = some x := by
      rw [← i2, kyT_mk]
      exact hx
    unfold insP
    rw [e1]
    simp only [e2, e3]
    rw [← i2, ← m1, ← m2]
    show ((ns2 _).1, (ns2 _).2.map (fun c => mkT ns2 g c.toNat)) = (insL (ns0 _).1 (s i) x, insL (((ns0 _).2.map (fun c => mkT ns0 g c.toNat)).set (s i) (mkT ns1 g c.toNat)) (s i + 1) (mkT ns1 g r))
    rw [h4, insL_map]
    congr 1
    have er : mkT ns2 g ((r : Int)).toNat = mkT ns1 g r := by rw [Int.toNat_natCast]; exact mkT_congr g r cr
    rw [er]
    congr 1
    apply List.ext_getElem?
    intro j
    rw [List.getElem?_map, List.getElem?_set, List.getElem?_map, List.length_map]
    by_cases hj : s i = j
    · subst hj
      rw [hc]
      simp only [Option.map_some, hkl, if_true]
      rw [mkT_congr g c.toNat cn]
    · rw [if_neg hj]
      cases hcj : (ns0 (pthT ns0 s n0 i)).2[j]? with
      | none => rfl
      | some c' =>
        show some (mkT ns2 g c'.toNat) = some (mkT ns0 g c'.toNat)
        rw [mkT_congr g c'.toNat (co j c' hcj (Ne.symm hj))]
  · show V _ ∧ (ns2 _).2.length = (ns2 _).1.length + 1 ∧ ∀ c ∈ (ns2 _).2, 0 ≤ c ∧ wfT V ns2 g c.toNat
    rw [h4]
    refine ⟨hVq, ?_, ?_⟩
    · show (insL _ _ _).length = (insL _ _ _).length + 1
      rw [insL_len _ _ (by omega), insL_len _ _ (hp.2.2 i (by omega)), w.2.1]
    · intro c' hc'
      rcases insL_mem hc' with hz | hz
      · subst hz
        refine ⟨Int.natCast_nonneg r, ?_⟩
        rw [Int.toNat_natCast]
        exact wfT_congr g r cr m4
      · refine ⟨(w.2.2 c' hz).1, ?_⟩
        obtain ⟨j, hj⟩ := List.getElem?_of_mem hz
        by_cases ej : j = s i
        · subst ej
          rw [hc] at hj
          cases hj
          exact wfT_congr g c.toNat cn m3
        · exact wfT_congr g c'.toNat (co j c' hj ej) (w.2.2 c' hz).2
  · show (_ :: (ns2 _).2.flatMap (fun c => fpT ns2 g c.toNat)).Perm (_ :: (ns0 _).2.flatMap (fun c => fpT ns0 g c.toNat) ++ (fr ++ [r]))
    rw [h4, List.cons_append]
    refine List.Perm.cons _ ?_
    have t1 : (insL (ns0 (pthT ns0 s n0 i)).2 (s i + 1) (r : Int)).flatMap (fun c => fpT ns2 g c.toNat) = ((ns0 (pthT ns0 s n0 i)).2.take (s i)).flatMap (fun c => fpT ns0 g c.toNat) ++ ((fpT ns1 g c.toNat ++ fpT ns1 g r) ++ ((ns0 (pthT ns0 s n0 i)).2.drop (s i + 1)).flatMap (fun c => fpT ns0 g c.toNat)) := by
      unfold insL
      rw [List.flatMap_append, List.flatMap_cons, List.take_add_one, hc, List.flatMap_append]
      have u1 : ((ns0 (pthT ns0 s n0 i)).2.take (s i)).flatMap (fun c => fpT ns2 g c.toNat) = ((ns0 (pthT ns0 s n0 i)).2.take (s i)).flatMap (fun c => fpT ns0 g c.toNat) := by
        apply flat_congr
        intro c' hc'
        obtain ⟨j, hj⟩ := List.getElem?_of_mem hc'
        have hlt : j < s i := by
          have := (List.getElem?_eq_some_iff.mp hj).1
          rw [List.length_take] at this
          omega
        rw [List.getElem?_take_of_lt hlt] at hj
        exact fpT_congr g c'.toNat (co j c' hj (by omega))
      have u2 : ((ns0 (pthT ns0 s n0 i)).2.drop (s i + 1)).flatMap (fun c => fpT ns2 g c.toNat) = ((ns0 (pthT ns0 s n0 i)).2.drop (s i + 1)).flatMap (fun c => fpT ns0 g c.toNat) := by
        apply flat_congr
        intro c' hc'
        obtain ⟨j, hj⟩ := List.getElem?_of_mem hc'
        rw [List.getElem?_drop] at hj
        exact fpT_congr g c'.toNat (co _ c' hj (by omega))
      rw [u1, u2]
      have u3 : ([c] : List Int).flatMap (fun c => fpT ns2 g c.toNat) = fpT ns1 g c.toNat := by
        rw [List.flatMap_cons, List.flatMap_nil, List.append_nil]
        exact fpT_congr g c.toNat cn
      have u4 : fpT ns2 g ((r : Int)).toNat = fpT ns1 g r := by rw [Int.toNat_natCast]; exact fpT_congr g r cr
      simp only [Option.toList_some]
      rw [u3, u4]
      simp only [List.append_assoc]
    rw [t1, flat_at (f := fun c => fpT ns0 g c.toNat) hc]
    refine perm_mid ?_
    refine m5.trans ?_
    rw [← List.append_assoc]
    exact i4.append_right [r]
end INS
