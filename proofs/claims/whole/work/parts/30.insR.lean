/-! the top of a path: nothing more to split, or the root is split -/
section INS
variable {α : Type} {V : Nat → Prop} {ns0 ns ns1 ns2 : Nat → List α × List Int} {s : Nat → Nat} {e x : α} {d n0 r r2 : Nat} {fr : List Nat}
theorem invA_top (hp : PthOK V ns0 s d n0) (h4 : ∀ m ∈ fpT ns0 d n0, (ns0 m).1.length ≤ 4) (hfr : ∀ m ∈ fr, m ∉ fpT ns0 d n0) : ∀ i, i ≤ d → InvA V ns0 ns s e d n0 i fr → (ns (pthT ns0 s n0 i)).1.length ≤ 4 → InvA V ns0 ns s e d n0 0 fr ∧ (ns n0).1.length ≤ 4 := by
  intro i
  induction i with
  | zero => intro _ h1 h2; exact ⟨h1, h2⟩
  | succ i ih =>
    intro hi h1 h2
    have h3 := invA_up hp (by omega) hfr h1 h2
    refine ih (by omega) h3 ?_
    have o := (invA_off hp (i := i) (by omega) hfr h1.1).1
    rw [o]
    exact h4 _ (fp_up hp i (by omega) _ (fpT_self _ _ _))
set_option maxHeartbeats 1000000 in
theorem invA_root (hp : PthOK V ns0 s d n0) (hfr : ∀ m ∈ fr, m ∉ fpT ns0 d n0) (hfn : fr.Nodup) (hI : InvA V ns0 ns s e d n0 0 fr) (h5 : (ns n0).1.length = 5) (hr : V r) (hr1 : r ∉ fr) (hr2 : r ∉ fpT ns0 d n0) (hs : V r2) (hs1 : r2 ∉ fr) (hs2 : r2 ∉ fpT ns0 d n0) (hrs : r ≠ r2)
    (h1 : ns1 n0 = ((ns n0).1.take 2, (ns n0).2.take 3)) (h2 : ns1 r = ((ns n0).1.drop 3, (ns n0).2.drop 3)) (h3 : ∀ m, V m → m ≠ n0 → m ≠ r → ns1 m = ns m)
    (h4 : ns2 r2 = ([x], [(n0 : Int), (r : Int)])) (h6 : ∀ m, V m → m ≠ r2 → ns2 m = ns1 m) : mkT ns2 (d + 1) r2 = (([x], [lfT d (insP s e d 0 (mkT ns0 d n0)), rtT d (insP s e d 0 (mkT ns0 d n0))]) : Tr α (d + 1)) ∧ wfT V ns2 (d + 1) r2 ∧ (fpT ns2 (d + 1) r2).Perm (fpT ns0 d n0 ++ fr ++ [r, r2]) := by
  obtain ⟨i1, i2, i3, i4⟩ := hI
  rw [Nat.sub_zero] at i2 i3 i4
  have e0 : pthT ns0 s n0 0 = n0 := rfl
  rw [e0] at i2 i3 i4
  have mem4 : ∀ m, m ∈ fpT ns d n0 → m ∈ fpT ns0 d n0 ∨ m ∈ fr := fun m hm => List.mem_append.mp (i4.mem_iff.mp hm)
  have hnd : (fpT ns d n0).Nodup := by
    refine i4.nodup_iff.mpr (List.nodup_append.mpr ⟨hp.2.1, hfn, fun a ha b hb hab => ?_⟩)
    subst hab
    exact hfr a hb ha
  have hrf : r ∉ fpT ns d n0 := fun z => (mem4 _ z).elim hr2 hr1
  have hsf : r2 ∉ fpT ns d n0 := fun z => (mem4 _ z).elim hs2 hs1
  obtain ⟨m1, m2, m3, m4, m5⟩ := mk_half (V := V) (r := r) h5 i3 hnd hr h1 h2 (fun m hm hne => h3 m (wfT_V i3 m hm) hne (fun z => hrf (z ▸ hm)))
  have off : ∀ m, m ∈ fpT ns1 d n0 ∨ m ∈ fpT ns1 d r → m ≠ r2 := by
    intro m hm z
    have : m ∈ fpT ns d n0 ++ [r] := m5.mem_iff.mp (List.mem_append.mpr hm)
    rcases List.mem_append.mp this with hz | hz
    · exact hsf (z ▸ hz)
    · exact hrs ((List.mem_singleton.mp hz).symm.trans z)
  have cn : ∀ m ∈ fpT ns1 d n0, ns2 m = ns1 m := fun m hm => h6 m (wfT_V m3 m hm) (off m (Or.inl hm))
  have cr : ∀ m ∈ fpT ns1 d r, ns2 m = ns1 m := fun m hm => h6 m (wfT_V m4 m hm) (off m (Or.inr hm))
  refine ⟨?_, ?_, ?_⟩
  · show ((ns2 r2).1, (ns2 r2).2.map (fun c => mkT ns2 d c.toNat)) = _
    rw [h4]
    simp only [List.map_cons, List.map_nil, Int.toNat_natCast]
    rw [mkT_congr d n0 cn, mkT_congr d r cr, m1, m2, i2]
  · show V r2 ∧ (ns2 r2).2.length = (ns2 r2).1.length + 1 ∧ ∀ c ∈ (ns2 r2).2, 0 ≤ c ∧ wfT V ns2 d c.toNat
    rw [h4]
    refine ⟨hs, rfl, fun c hc => ?_⟩
    rcases List.mem_cons.mp hc with hc | hc
    · subst hc
      refine ⟨Int.natCast_nonneg _, ?_⟩
      rw [Int.toNat_natCast]
      exact wfT_congr d n0 cn m3
    · have := List.mem_singleton.mp hc
      subst this
      refine ⟨Int.natCast_nonneg _, ?_⟩
      rw [Int.toNat_natCast]
      exact wfT_congr d r cr m4
  · show (r2 :: (ns2 r2).2.flatMap (fun c => fpT ns2 d c.toNat)).Perm _
    rw [h4]
    simp only [List.flatMap_cons, List.flatMap_nil, Int.toNat_natCast, List.append_nil]
    rw [fpT_congr d n0 cn, fpT_congr d r cr]
    have p1 : (r2 :: (fpT ns1 d n0 ++ fpT ns1 d r)).Perm (r2 :: (fpT ns0 d n0 ++ fr ++ [r])) := List.Perm.cons r2 (m5.trans (i4.append_right [r]))
    refine p1.trans ?_
    rw [show fpT ns0 d n0 ++ fr ++ [r, r2] = (fpT ns0 d n0 ++ fr ++ [r]) ++ [r2] by simp]
    exact (List.perm_append_singleton r2 _).symm
end INS
