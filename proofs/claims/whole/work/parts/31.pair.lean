/-! neighbours under one node: what moves between them, in trees and in a store -/
def dlT {α : Type} : (h : Nat) → Tr α h → Tr α h
  | 0, t => List.dropLast t
  | _ + 1, t => (t.1.dropLast, t.2.dropLast)
def tlT {α : Type} : (h : Nat) → Tr α h → Tr α h
  | 0, t => List.tail t
  | _ + 1, t => (t.1.tail, t.2.tail)
def coT {α : Type} (x : α) : (h : Nat) → Tr α h → Tr α h → Tr α h
  | 0, _, r => x :: r
  | _ + 1, l, r => (x :: r.1, l.2.getLast?.toList ++ r.2)
def snT {α : Type} (x : α) : (h : Nat) → Tr α h → Tr α h → Tr α h
  | 0, l, _ => List.append l [x]
  | _ + 1, l, r => (l.1 ++ [x], l.2 ++ r.2.head?.toList)
def joT {α : Type} (x : α) : (h : Nat) → Tr α h → Tr α h → Tr α h
  | 0, l, r => List.append l (x :: r)
  | _ + 1, l, r => (l.1 ++ x :: r.1, l.2 ++ r.2)
theorem flat_map_eq {l : List Int} {β : Type} {f g : Int → β} (h : ∀ c ∈ l, f c = g c) : l.map f = l.map g := List.map_congr_left h
/-- a node whose children in the middle become others, the ones beside them stay -/
theorem mkT_mid {α : Type} {V : Nat → Prop} {ns ns2 : Nat → List α × List Int} {g q : Nat} {C1 M M' C2 : List Int} {go : List Nat} (hq : (ns q).2 = C1 ++ (M ++ C2)) (h2 : (ns2 q).2 = C1 ++ (M' ++ C2)) (ho : ∀ c, c ∈ C1 ∨ c ∈ C2 → ∀ m ∈ fpT ns g c.toNat, ns2 m = ns m) (hp : (M'.flatMap (fun c => fpT ns2 g c.toNat) ++ go).Perm (M.flatMap (fun c => fpT ns g c.toNat))) (hw : wfT V ns (g + 1) q) (hl : (ns2 q).2.length = (ns2 q).1.length + 1) (hm : ∀ c ∈ M', 0 ≤ c ∧ wfT V ns2 g c.toNat) :
    mkT ns2 (g + 1) q = (((ns2 q).1, C1.map (fun c => mkT ns g c.toNat) ++ (M'.map (fun c => mkT ns2 g c.toNat) ++ C2.map (fun c => mkT ns g c.toNat))) : Tr α (g + 1)) ∧ wfT V ns2 (g + 1) q ∧ (fpT ns2 (g + 1) q ++ go).Perm (fpT ns (g + 1) q) := by
  have c1 : ∀ c ∈ C1, ∀ m ∈ fpT ns g c.toNat, ns2 m = ns m := fun c hc => ho c (Or.inl hc)
  have c2 : ∀ c ∈ C2, ∀ m ∈ fpT ns g c.toNat, ns2 m = ns m := fun c hc => ho c (Or.inr hc)
  refine ⟨?_, ⟨hw.1, hl, ?_⟩, ?_⟩
  · show ((ns2 q).1, (ns2 q).2.map (fun c => mkT ns2 g c.toNat)) = _
    rw [h2, List.map_append, List.map_append, flat_map_eq (l := C1) (fun c hc => mkT_congr g c.toNat (c1 c hc)), flat_map_eq (l := C2) (fun c hc => mkT_congr g c.toNat (c2 c hc))]
  · intro c hc
    have hin : ∀ c', c' ∈ C1 ∨ c' ∈ C2 → c' ∈ (ns q).2 := by
      intro c' h
      rw [hq]
      rcases h with h | h
      · exact List.mem_append_left _ h
      · exact List.mem_append_right _ (List.mem_append_right _ h)
    rw [h2] at hc
    rcases List.mem_append.mp hc with h | h
    · exact ⟨(hw.2.2 c (hin c (Or.inl h))).1, wfT_congr g _ (c1 c h) (hw.2.2 c (hin c (Or.inl h))).2⟩
    · rcases List.mem_append.mp h with h | h
      · exact hm c h
      · exact ⟨(hw.2.2 c (hin c (Or.inr h))).1, wfT_congr g _ (c2 c h) (hw.2.2 c (hin c (Or.inr h))).2⟩
  · show (q :: (ns2 q).2.flatMap (fun c => fpT ns2 g c.toNat) ++ go).Perm (q :: (ns q).2.flatMap (fun c => fpT ns g c.toNat))
    rw [h2, hq, List.cons_append]
    refine List.Perm.cons q ?_
    rw [List.flatMap_append, List.flatMap_append, List.flatMap_append, List.flatMap_append, flat_congr (l := C1) (fun c hc => fpT_congr g c.toNat (c1 c hc)), flat_congr (l := C2) (fun c hc => fpT_congr g c.toNat (c2 c hc))]
    rw [List.append_assoc]
    refine List.Perm.append_left _ ?_
    refine List.Perm.trans ?_ (hp.append_right _)
    rw [List.append_assoc, List.append_assoc]
    exact List.Perm.append_left _ List.perm_append_comm
theorem nd_mid {α : Type} {ns : Nat → List α × List Int} {g q : Nat} {C1 M C2 : List Int} (hq : (ns q).2 = C1 ++ (M ++ C2)) (hnd : (fpT ns (g + 1) q).Nodup) : (∀ c, c ∈ C1 ∨ c ∈ C2 → ∀ m ∈ fpT ns g c.toNat, m ≠ q ∧ ∀ c' ∈ M, m ∉ fpT ns g c'.toNat) ∧ (∀ c' ∈ M, q ∉ fpT ns g c'.toNat) ∧ (M.flatMap (fun c => fpT ns g c.toNat)).Nodup := by
  have h1 := List.nodup_cons.mp hnd
  have h2 := h1.2
  have hqm := h1.1
  rw [hq] at h2 hqm
  rw [List.flatMap_append, List.flatMap_append] at h2 hqm
  have a := List.nodup_append.mp h2
  have b := List.nodup_append.mp a.2.1
  refine ⟨fun c hc m hm => ⟨?_, fun c' hc' hm' => ?_⟩, fun c' hc' hm => ?_, b.1⟩
  · intro z
    subst z
    apply hqm
    rcases hc with hc | hc
    · exact List.mem_append_left _ (List.mem_flatMap.mpr ⟨c, hc, hm⟩)
    · exact List.mem_append_right _ (List.mem_append_right _ (List.mem_flatMap.mpr ⟨c, hc, hm⟩))
  · have hM : m ∈ M.flatMap (fun c => fpT ns g c.toNat) := List.mem_flatMap.mpr ⟨c', hc', hm'⟩
    rcases hc with hc | hc
    · exact a.2.2 m (List.mem_flatMap.mpr ⟨c, hc, hm⟩) m (List.mem_append_left _ hM) rfl
    · exact b.2.2 m hM m (List.mem_flatMap.mpr ⟨c, hc, hm⟩) rfl
  · exact hqm (List.mem_append_right _ (List.mem_append_left _ (List.mem_flatMap.mpr ⟨c', hc', hm⟩)))
theorem last_split {β : Type} {l : List β} {z : β} (h : l.getLast? = some z) : l = l.dropLast ++ [z] := by
  obtain ⟨ys, rfl⟩ := List.getLast?_eq_some_iff.mp h
  simp
theorem head_split {β : Type} {l : List β} {z : β} (h : l.head? = some z) : l = z :: l.tail := by
  cases l with
  | nil => simp at h
  | cons a t => simp at h; rw [h]; rfl
section PAIR
variable {α : Type} {V : Nat → Prop} {ns ns2 : Nat → List α × List Int} {l r : Nat} {x : α} {z : Int}
theorem kid_stay {g : Nat} {cs : List Int} {n : Nat} (hn : (ns n).2 = cs) (hnd : (fpT ns (g + 1) n).Nodup) (h : ∀ m ∈ fpT ns (g + 1) n, m ≠ n → ns2 m = ns m) : ∀ c ∈ cs, ∀ m ∈ fpT ns g c.toNat, ns2 m = ns m := by
  intro c hc m hm
  rw [← hn] at hc
  exact h m (fpT_kid hc hm) (fun z => (fp_nd_kid hnd hc).2 (z ▸ hm))
set_option maxHeartbeats 1000000 in
theorem pr_tfl : ∀ {g : Nat}, wfT V ns g l → wfT V ns g r → (fpT ns g l ++ fpT ns g r).Nodup → (ns l).2.getLast? = some z → 1 ≤ (ns l).1.length →
    ns2 l = ((ns l).1.dropLast, (ns l).2.dropLast) → ns2 r = (x :: (ns r).1, z :: (ns r).2) → (∀ m, m ∈ fpT ns g l ∨ m ∈ fpT ns g r → m ≠ l → m ≠ r → ns2 m = ns m) →
    mkT ns2 g l = dlT g (mkT ns g l) ∧ mkT ns2 g r = coT x g (mkT ns g l) (mkT ns g r) ∧ wfT V ns2 g l ∧ wfT V ns2 g r ∧ (fpT ns2 g l ++ fpT ns2 g r).Perm (fpT ns g l ++ fpT ns g r)
  | 0, wl, wr, hnd, hz, h1, e1, e2, h3 => by
    refine ⟨?_, ?_, ⟨wl.1, ?_⟩, ⟨wr.1, ?_⟩, List.Perm.refl _⟩
    · show (ns2 l).1 = _
      rw [e1]; rfl
    · show (ns2 r).1 = _
      rw [e2]; rfl
    · rw [e1]
      show (ns l).2.dropLast = List.replicate ((ns l).1.dropLast.length + 1) (-1)
      rw [wl.2, List.dropLast_replicate, List.length_dropLast]
      congr 1
      omega
    · rw [e2]
      show z :: (ns r).2 = List.replicate ((ns r).1.length + 1 + 1) (-1)
      have : z = -1 := by
        have hm : z ∈ (ns l).2 := List.mem_of_getLast? hz
        rw [wl.2] at hm
        exact List.eq_of_mem_replicate hm
      rw [wr.2, this]
      rfl
  | g + 1, wl, wr, hnd, hz, h1, e1, e2, h3 => by
    have nd := List.nodup_append.mp hnd
    have hlr : l ≠ r := fun c => nd.2.2 l (fpT_self _ _ _) r (fpT_self _ _ _) c
    have sl := kid_stay rfl nd.1 (fun m hm hne => h3 m (Or.inl hm) hne (fun c => nd.2.2 m hm r (fpT_self _ _ _) c))
    have sr := kid_stay rfl nd.2.1 (fun m hm hne => h3 m (Or.inr hm) (fun c => nd.2.2 l (fpT_self _ _ _) m hm c.symm) hne)
    have hzl : z ∈ (ns l).2 := List.mem_of_getLast? hz
    have hdl : ∀ c ∈ (ns l).2.dropLast, c ∈ (ns l).2 := fun c hc => List.dropLast_subset _ hc
    refine ⟨?_, ?_, ⟨wl.1, ?_, ?_⟩, ⟨wr.1, ?_, ?_⟩, ?_⟩
    · show ((ns2 l).1, (ns2 l).2.map (fun c => mkT ns2 g c.toNat)) = ((ns l).1.dropLast, ((ns l).2.map (fun c => mkT ns g c.toNat)).dropLast)
      rw [e1, ← List.map_dropLast, flat_map_eq (l := (ns l).2.dropLast) (fun c hc => mkT_congr g c.toNat (sl c (hdl c hc)))]
    · show ((ns2 r).1, (ns2 r).2.map (fun c => mkT ns2 g c.toNat)) = (x :: (ns r).1, ((ns l).2.map (fun c => mkT ns g c.toNat)).getLast?.toList ++ (ns r).2.map (fun c => mkT ns g c.toNat))
      rw [e2, List.getLast?_map, hz]
      simp only [List.map_cons, Option.map_some, Option.toList_some, List.singleton_append]
      rw [mkT_congr g z.toNat (sl z hzl), flat_map_eq (l := (ns r).2) (fun c hc => mkT_congr g c.toNat (sr c hc))]
    · rw [e1]
      show (ns l).2.dropLast.length = (ns l).1.dropLast.length + 1
      rw [List.length_dropLast, List.length_dropLast, wl.2.1]
      omega
    · rw [e1]
      intro c hc
      exact ⟨(wl.2.2 c (hdl c hc)).1, wfT_congr g _ (sl c (hdl c hc)) (wl.2.2 c (hdl c hc)).2⟩
    · rw [e2]
      show (ns r).2.length + 1 = (ns r).1.length + 1 + 1
      rw [wr.2.1]
    · rw [e2]
      intro c hc
      rcases List.mem_cons.mp hc with h | h
      · subst h
        exact ⟨(wl.2.2 c hzl).1, wfT_congr g _ (sl c hzl) (wl.2.2 c hzl).2⟩
      · exact ⟨(wr.2.2 c h).1, wfT_congr g _ (sr c h) (wr.2.2 c h).2⟩
    · show (l :: (ns2 l).2.flatMap (fun c => fpT ns2 g c.toNat) ++ r :: (ns2 r).2.flatMap (fun c => fpT ns2 g c.toNat)).Perm (l :: (ns l).2.flatMap (fun c => fpT ns g c.toNat) ++ r :: (ns r).2.flatMap (fun c => fpT ns g c.toNat))
      rw [e1, e2]
      simp only [List.flatMap_cons, List.cons_append]
      rw [flat_congr (l := (ns l).2.dropLast) (fun c hc => fpT_congr g c.toNat (sl c (hdl c hc))), fpT_congr g z.toNat (sl z hzl), flat_congr (l := (ns r).2) (fun c hc => fpT_congr g c.toNat (sr c hc))]
      refine List.Perm.cons l ?_
      conv => rhs; rw [last_split hz]
      rw [List.flatMap_append, List.flatMap_cons, List.flatMap_nil, List.append_nil, List.append_assoc]
      refine List.Perm.append_left _ ?_
      exact List.perm_middle.symm
set_option maxHeartbeats 1000000 in
theorem pr_tfr : ∀ {g : Nat}, wfT V ns g l → wfT V ns g r → (fpT ns g l ++ fpT ns g r).Nodup → (ns r).2.head? = some z → 1 ≤ (ns r).1.length →
    ns2 l = ((ns l).1 ++ [x], (ns l).2 ++ [z]) → ns2 r = ((ns r).1.tail, (ns r).2.tail) → (∀ m, m ∈ fpT ns g l ∨ m ∈ fpT ns g r → m ≠ l → m ≠ r → ns2 m = ns m) →
    mkT ns2 g l = snT x g (mkT ns g l) (mkT ns g r) ∧ mkT ns2 g r = tlT g (mkT ns g r) ∧ wfT V ns2 g l ∧ wfT V ns2 g r ∧ (fpT ns2 g l ++ fpT ns2 g r).Perm (fpT ns g l ++ fpT ns g r)
  | 0, wl, wr, hnd, hz, h1, e1, e2, h3 => by
    refine ⟨?_, ?_, ⟨wl.1, ?_⟩, ⟨wr.1, ?_⟩, List.Perm.refl _⟩
    · show (ns2 l).1 = _
      rw [e1]; rfl
    · show (ns2 r).1 = _
      rw [e2]; rfl
    · rw [e1]
      show (ns l).2 ++ [z] = List.replicate (((ns l).1 ++ [x]).length + 1) (-1)
      have : z = -1 := by
        have hm : z ∈ (ns r).2 := List.mem_of_head? hz
        rw [wr.2] at hm
        exact List.eq_of_mem_replicate hm
      rw [wl.2, this, List.length_append, List.length_singleton]
      exact List.replicate_succ'.symm
    · rw [e2]
      show (ns r).2.tail = List.replicate ((ns r).1.tail.length + 1) (-1)
      rw [wr.2, List.tail_replicate, List.length_tail]
      congr 1
      omega
  | g + 1, wl, wr, hnd, hz, h1, e1, e2, h3 => by
    have nd := List.nodup_append.mp hnd
    have hlr : l ≠ r := fun c => nd.2.2 l (fpT_self _ _ _) r (fpT_self _ _ _) c
    have sl := kid_stay rfl nd.1 (fun m hm hne => h3 m (Or.inl hm) hne (fun c => nd.2.2 m hm r (fpT_self _ _ _) c))
    have sr := kid_stay rfl nd.2.1 (fun m hm hne => h3 m (Or.inr hm) (fun c => nd.2.2 l (fpT_self _ _ _) m hm c.symm) hne)
    have hzr : z ∈ (ns r).2 := List.mem_of_head? hz
    have hdl : ∀ c ∈ (ns r).2.tail, c ∈ (ns r).2 := fun c hc => List.mem_of_mem_tail hc
    refine ⟨?_, ?_, ⟨wl.1, ?_, ?_⟩, ⟨wr.1, ?_, ?_⟩, ?_⟩
    · show ((ns2 l).1, (ns2 l).2.map (fun c => mkT ns2 g c.toNat)) = ((ns l).1 ++ [x], (ns l).2.map (fun c => mkT ns g c.toNat) ++ ((ns r).2.map (fun c => mkT ns g c.toNat)).head?.toList)
      rw [e1, List.head?_map, hz]
      simp only [List.map_append, List.map_cons, List.map_nil, Option.map_some, Option.toList_some]
      rw [mkT_congr g z.toNat (sr z hzr), flat_map_eq (l := (ns l).2) (fun c hc => mkT_congr g c.toNat (sl c hc))]
    · show ((ns2 r).1, (ns2 r).2.map (fun c => mkT ns2 g c.toNat)) = ((ns r).1.tail, ((ns r).2.map (fun c => mkT ns g c.toNat)).tail)
      rw [e2, ← List.map_tail, flat_map_eq (l := (ns r).2.tail) (fun c hc => mkT_congr g c.toNat (sr c (hdl c hc)))]
    · rw [e1]
      show ((ns l).2 ++ [z]).length = ((ns l).1 ++ [x]).length + 1
      rw [List.length_append, List.length_append, wl.2.1]
      rfl
    · rw [e1]
      intro c hc
      rcases List.mem_append.mp hc with h | h
      · exact ⟨(wl.2.2 c h).1, wfT_congr g _ (sl c h) (wl.2.2 c h).2⟩
      · have := List.mem_singleton.mp h
        subst this
        exact ⟨(wr.2.2 c hzr).1, wfT_congr g _ (sr c hzr) (wr.2.2 c hzr).2⟩
    · rw [e2]
      show (ns r).2.tail.length = (ns r).1.tail.length + 1
      rw [List.length_tail, List.length_tail, wr.2.1]
      omega
    · rw [e2]
      intro c hc
      exact ⟨(wr.2.2 c (hdl c hc)).1, wfT_congr g _ (sr c (hdl c hc)) (wr.2.2 c (hdl c hc)).2⟩
    · show (l :: (ns2 l).2.flatMap (fun c => fpT ns2 g c.toNat) ++ r :: (ns2 r).2.flatMap (fun c => fpT ns2 g c.toNat)).Perm (l :: (ns l).2.flatMap (fun c => fpT ns g c.toNat) ++ r :: (ns r).2.flatMap (fun c => fpT ns g c.toNat))
      rw [e1, e2]
      simp only [List.flatMap_append, List.flatMap_cons, List.flatMap_nil, List.append_nil, List.cons_append]
      rw [flat_congr (l := (ns r).2.tail) (fun c hc => fpT_congr g c.toNat (sr c (hdl c hc))), fpT_congr g z.toNat (sr z hzr), flat_congr (l := (ns l).2) (fun c hc => fpT_congr g c.toNat (sl c hc))]
      refine List.Perm.cons l ?_
      conv => rhs; rw [head_split hz]
      rw [List.flatMap_cons, List.append_assoc]
      refine List.Perm.append_left _ ?_
      exact List.perm_middle
set_option maxHeartbeats 1000000 in
theorem pr_join : ∀ {g : Nat}, wfT V ns g l → wfT V ns g r → (fpT ns g l ++ fpT ns g r).Nodup →
    ns2 l = ((ns l).1 ++ x :: (ns r).1, (ns l).2 ++ (ns r).2) → (∀ m, m ∈ fpT ns g l ∨ m ∈ fpT ns g r → m ≠ l → m ≠ r → ns2 m = ns m) →
    mkT ns2 g l = joT x g (mkT ns g l) (mkT ns g r) ∧ wfT V ns2 g l ∧ (fpT ns2 g l ++ [r]).Perm (fpT ns g l ++ fpT ns g r)
  | 0, wl, wr, hnd, e1, h3 => by
    refine ⟨?_, ⟨wl.1, ?_⟩, List.Perm.refl _⟩
    · show (ns2 l).1 = _
      rw [e1]; rfl
    · rw [e1]
      show (ns l).2 ++ (ns r).2 = List.replicate (((ns l).1 ++ x :: (ns r).1).length + 1) (-1)
      rw [wl.2, wr.2, List.length_append, List.length_cons, List.replicate_append_replicate]
      congr 1
      omega
  | g + 1, wl, wr, hnd, e1, h3 => by
    have nd := List.nodup_append.mp hnd
    have hlr : l ≠ r := fun c => nd.2.2 l (fpT_self _ _ _) r (fpT_self _ _ _) c
    have sl := kid_stay rfl nd.1 (fun m hm hne => h3 m (Or.inl hm) hne (fun c => nd.2.2 m hm r (fpT_self _ _ _) c))
    have sr := kid_stay rfl nd.2.1 (fun m hm hne => h3 m (Or.inr hm) (fun c => nd.2.2 l (fpT_self _ _ _) m hm c.symm) hne)
    refine ⟨?_, ⟨wl.1, ?_, ?_⟩, ?_⟩
    · show ((ns2 l).1, (ns2 l).2.map (fun c => mkT ns2 g c.toNat)) = ((ns l).1 ++ x :: (ns r).1, (ns l).2.map (fun c => mkT ns g c.toNat) ++ (ns r).2.map (fun c => mkT ns g c.toNat))
      rw [e1]
      simp only [List.map_append]
      rw [flat_map_eq (l := (ns l).2) (fun c hc => mkT_congr g c.toNat (sl c hc)), flat_map_eq (l := (ns r).2) (fun c hc => mkT_congr g c.toNat (sr c hc))]
    · rw [e1]
      show ((ns l).2 ++ (ns r).2).length = ((ns l).1 ++ x :: (ns r).1).length + 1
      rw [List.length_append, List.length_append, wl.2.1, wr.2.1, List.length_cons]
      omega
    · rw [e1]
      intro c hc
      rcases List.mem_append.mp hc with h | h
      · exact ⟨(wl.2.2 c h).1, wfT_congr g _ (sl c h) (wl.2.2 c h).2⟩
      · exact ⟨(wr.2.2 c h).1, wfT_congr g _ (sr c h) (wr.2.2 c h).2⟩
    · show (l :: (ns2 l).2.flatMap (fun c => fpT ns2 g c.toNat) ++ [r]).Perm (l :: (ns l).2.flatMap (fun c => fpT ns g c.toNat) ++ r :: (ns r).2.flatMap (fun c => fpT ns g c.toNat))
      rw [e1]
      simp only [List.flatMap_append, List.cons_append]
      rw [flat_congr (l := (ns l).2) (fun c hc => fpT_congr g c.toNat (sl c hc)), flat_congr (l := (ns r).2) (fun c hc => fpT_congr g c.toNat (sr c hc))]
      refine List.Perm.cons l ?_
      rw [List.append_assoc]
      refine List.Perm.append_left _ ?_
      exact List.perm_append_singleton r _
end PAIR
