/-! an entry comes: one level of a path, seen from the store -/
theorem flat_congr {l : List Int} {f g : Int → List Nat} (h : ∀ c ∈ l, f c = g c) : l.flatMap f = l.flatMap g := by
  induction l with
  | nil => rfl
  | cons c l ih => rw [List.flatMap_cons, List.flatMap_cons, h c List.mem_cons_self, ih (fun c hc => h c (List.mem_cons_of_mem _ hc))]
theorem flat_at {l : List Int} {f : Int → List Nat} {j : Nat} {c : Int} (hj : l[j]? = some c) : l.flatMap f = (l.take j).flatMap f ++ (f c ++ (l.drop (j + 1)).flatMap f) := by
  have h : l = l.take j ++ c :: l.drop (j + 1) := by
    have hl := (List.getElem?_eq_some_iff.mp hj)
    rw [← hl.2]
    rw [List.getElem_cons_drop]
    rw [List.take_append_drop]
  conv => lhs; rw [h]
  rw [List.flatMap_append, List.flatMap_cons]
theorem nd_flat {l : List Int} {f : Int → List Nat} (h : (l.flatMap f).Nodup) {j k : Nat} {c c' : Int} (hj : l[j]? = some c) (hk : l[k]? = some c') (hjk : j ≠ k) : ∀ m ∈ f c, m ∉ f c' := by
  intro m hm hm'
  rw [flat_at hj] at h
  have h1 := List.nodup_append.mp h
  have h2 := List.nodup_append.mp h1.2.1
  rcases Nat.lt_or_ge k j with hlt | hge
  · have : c' ∈ l.take j := List.mem_of_getElem? (i := k) (by rw [List.getElem?_take_of_lt hlt]; exact hk)
    exact h1.2.2 m (List.mem_flatMap.mpr ⟨c', this, hm'⟩) m (List.mem_append_left _ hm) rfl
  · have : c' ∈ l.drop (j + 1) := List.mem_of_getElem? (i := k - (j + 1)) (by rw [List.getElem?_drop, show j + 1 + (k - (j + 1)) = k by omega]; exact hk)
    exact h2.2.2 m hm m (List.mem_flatMap.mpr ⟨c', this, hm'⟩) rfl
theorem fp_nd_kid {α : Type} {ns : Nat → List α × List Int} {h n : Nat} {c : Int} (hn : (fpT ns (h + 1) n).Nodup) (hc : c ∈ (ns n).2) : (fpT ns h c.toNat).Nodup ∧ n ∉ fpT ns h c.toNat := by
  have h1 := List.nodup_cons.mp hn
  obtain ⟨j, hj⟩ := List.getElem?_of_mem hc
  have h2 := h1.2
  rw [flat_at (f := fun c => fpT ns h c.toNat) hj] at h2
  exact ⟨(List.nodup_append.mp (List.nodup_append.mp h2).2.1).1, fun hm => h1.1 (List.mem_flatMap.mpr ⟨c, hc, hm⟩)⟩
/-- the child at a slot becomes another tree, the rest of the store that the other children use stays -/
theorem mkT_kid {α : Type} {ns ns' : Nat → List α × List Int} {h q k : Nat} {c : Int} (hq : ns' q = ns q) (hc : (ns q).2[k]? = some c) (ho : ∀ j c', (ns q).2[j]? = some c' → j ≠ k → ∀ m ∈ fpT ns h c'.toNat, ns' m = ns m) : mkT ns' (h + 1) q = ((ns q).1, ((ns q).2.map (fun c => mkT ns h c.toNat)).set k (mkT ns' h c.toNat)) := by
  show ((ns' q).1, (ns' q).2.map (fun c => mkT ns' h c.toNat)) = _
  rw [hq]
  congr 1
  apply List.ext_getElem?
  intro j
  rw [List.getElem?_map, List.getElem?_set, List.getElem?_map, List.length_map]
  by_cases hj : k = j
  · subst hj
    rw [hc]
    simp [(List.getElem?_eq_some_iff.mp hc).1]
  · rw [if_neg hj]
    cases hcj : (ns q).2[j]? with
    | none => rfl
    | some c' =>
      show some (mkT ns' h c'.toNat) = some (mkT ns h c'.toNat)
      rw [mkT_congr h c'.toNat (ho j c' hcj (Ne.symm hj))]
theorem perm_mid {α : Type} {a b b' c f : List α} (h : b'.Perm (b ++ f)) : (a ++ (b' ++ c)).Perm (a ++ (b ++ c) ++ f) := by
  have h1 : (b' ++ c).Perm (b ++ c ++ f) := by
    refine (h.append_right c).trans ?_
    rw [List.append_assoc, List.append_assoc]
    exact List.perm_append_comm.append_left b
  rw [List.append_assoc]
  exact h1.append_left a
theorem fpT_kidP {α : Type} {ns ns' : Nat → List α × List Int} {h q k : Nat} {c : Int} {fr : List Nat} (hq : ns' q = ns q) (hc : (ns q).2[k]? = some c) (ho : ∀ j c', (ns q).2[j]? = some c' → j ≠ k → ∀ m ∈ fpT ns h c'.toNat, ns' m = ns m) (hp : (fpT ns' h c.toNat).Perm (fpT ns h c.toNat ++ fr)) : (fpT ns' (h + 1) q).Perm (fpT ns (h + 1) q ++ fr) := by
  show (q :: (ns' q).2.flatMap (fun c => fpT ns' h c.toNat)).Perm (q :: (ns q).2.flatMap (fun c => fpT ns h c.toNat) ++ fr)
  rw [hq, List.cons_append]
  refine List.Perm.cons q ?_
  rw [flat_at (f := fun c => fpT ns' h c.toNat) hc, flat_at (f := fun c => fpT ns h c.toNat) hc]
  have e1 : ((ns q).2.take k).flatMap (fun c => fpT ns' h c.toNat) = ((ns q).2.take k).flatMap (fun c => fpT ns h c.toNat) := by
    apply flat_congr
    intro c' hc'
    obtain ⟨j, hj⟩ := List.getElem?_of_mem hc'
    have hlt : j < k := by
      have := (List.getElem?_eq_some_iff.mp hj).1
      rw [List.length_take] at this
      omega
    rw [List.getElem?_take_of_lt hlt] at hj
    exact fpT_congr h c'.toNat (ho j c' hj (by omega))
  have e2 : ((ns q).2.drop (k + 1)).flatMap (fun c => fpT ns' h c.toNat) = ((ns q).2.drop (k + 1)).flatMap (fun c => fpT ns h c.toNat) := by
    apply flat_congr
    intro c' hc'
    obtain ⟨j, hj⟩ := List.getElem?_of_mem hc'
    rw [List.getElem?_drop] at hj
    exact fpT_congr h c'.toNat (ho _ c' hj (by omega))
  rw [e1, e2]
  exact perm_mid hp
theorem wfT_kid {α : Type} {V : Nat → Prop} {ns ns' : Nat → List α × List Int} {h q k : Nat} {c : Int} (hw : wfT V ns (h + 1) q) (hq : ns' q = ns q) (hc : (ns q).2[k]? = some c) (ho : ∀ j c', (ns q).2[j]? = some c' → j ≠ k → ∀ m ∈ fpT ns h c'.toNat, ns' m = ns m) (hk : wfT V ns' h c.toNat) : wfT V ns' (h + 1) q := by
  obtain ⟨h0, h1, h2⟩ := hw
  show V q ∧ (ns' q).2.length = (ns' q).1.length + 1 ∧ ∀ c ∈ (ns' q).2, 0 ≤ c ∧ wfT V ns' h c.toNat
  rw [hq]
  refine ⟨h0, h1, fun c' hc' => ⟨(h2 c' hc').1, ?_⟩⟩
  obtain ⟨j, hj⟩ := List.getElem?_of_mem hc'
  by_cases e : j = k
  · subst e
    rw [hc] at hj
    cases hj
    exact hk
  · exact wfT_congr h c'.toNat (ho j c' hj e) (h2 c' hc').2
/-- what holds of a path once the entry has come as far up as level i: the nodes on the path from there on and fresh ones have changed, the tree there is insP's -/
def InvA {α : Type} (V : Nat → Prop) (ns0 ns : Nat → List α × List Int) (s : Nat → Nat) (e : α) (d n0 i : Nat) (fr : List Nat) : Prop :=
  (∀ m, V m → m ∉ fr → (∀ j, i ≤ j → j ≤ d → m ≠ pthT ns0 s n0 j) → ns m = ns0 m) ∧
  mkT ns (d - i) (pthT ns0 s n0 i) = insP s e (d - i) i (mkT ns0 (d - i) (pthT ns0 s n0 i)) ∧
  wfT V ns (d - i) (pthT ns0 s n0 i) ∧ (fpT ns (d - i) (pthT ns0 s n0 i)).Perm (fpT ns0 (d - i) (pthT ns0 s n0 i) ++ fr)
/-- a path that stays within the tree -/
def PthOK {α : Type} (V : Nat → Prop) (ns : Nat → List α × List Int) (s : Nat → Nat) (d n0 : Nat) : Prop :=
  wfT V ns d n0 ∧ (fpT ns d n0).Nodup ∧ ∀ i, i ≤ d → s i ≤ (ns (pthT ns s n0 i)).1.length
theorem pth_wf {α : Type} {V : Nat → Prop} {ns : Nat → List α × List Int} {s : Nat → Nat} {d n0 : Nat} (h : PthOK V ns s d n0) : ∀ i, i ≤ d → wfT V ns (d - i) (pthT ns s n0 i) ∧ (fpT ns (d - i) (pthT ns s n0 i)).Nodup := by
  intro i
  induction i with
  | zero => intro _; exact ⟨h.1, h.2.1⟩
  | succ i ih =>
    intro hi
    obtain ⟨h1, h2⟩ := ih (by omega)
    obtain ⟨g, hg⟩ : ∃ g, d - i = g + 1 := ⟨d - i - 1, by omega⟩
    rw [hg] at h1 h2
    have hs := h.2.2 i (by omega)
    have hlt : s i < (ns (pthT ns s n0 i)).2.length := by rw [h1.2.1]; omega
    have hc : (ns (pthT ns s n0 i)).2[s i]? = some ((ns (pthT ns s n0 i)).2[s i]) := List.getElem?_eq_getElem hlt
    have hm := List.mem_of_getElem? hc
    have e : pthT ns s n0 (i + 1) = ((ns (pthT ns s n0 i)).2[s i]).toNat := by
      show ((ns (pthT ns s n0 i)).2[s i]?.getD 0).toNat = _
      rw [hc]; rfl
    rw [e, show d - (i + 1) = g by omega]
    exact ⟨(h1.2.2 _ hm).2, (fp_nd_kid h2 hm).1⟩
theorem pth_kid {α : Type} {V : Nat → Prop} {ns : Nat → List α × List Int} {s : Nat → Nat} {d n0 i : Nat} (h : PthOK V ns s d n0) (hi : i < d) : ∃ c : Int, 0 ≤ c ∧ (ns (pthT ns s n0 i)).2[s i]? = some c ∧ pthT ns s n0 (i + 1) = c.toNat ∧ c ∈ (ns (pthT ns s n0 i)).2 := by
  obtain ⟨h1, h2⟩ := pth_wf h i (by omega)
  obtain ⟨g, hg⟩ : ∃ g, d - i = g + 1 := ⟨d - i - 1, by omega⟩
  rw [hg] at h1
  have hs := h.2.2 i (by omega)
  have hlt : s i < (ns (pthT ns s n0 i)).2.length := by rw [h1.2.1]; omega
  have hc : (ns (pthT ns s n0 i)).2[s i]? = some ((ns (pthT ns s n0 i)).2[s i]) := List.getElem?_eq_getElem hlt
  refine ⟨_, (h1.2.2 _ (List.mem_of_getElem? hc)).1, hc, ?_, List.mem_of_getElem? hc⟩
  show ((ns (pthT ns s n0 i)).2[s i]?.getD 0).toNat = _
  rw [hc]; rfl
theorem pth_in {α : Type} {V : Nat → Prop} {ns : Nat → List α × List Int} {s : Nat → Nat} {d n0 : Nat} (h : PthOK V ns s d n0) : ∀ (g i : Nat), i + g ≤ d → pthT ns s n0 (i + g) ∈ fpT ns (d - i) (pthT ns s n0 i) := by
  intro g
  induction g with
  | zero => intro i hi; exact fpT_self ns _ _
  | succ g ih =>
    intro i hi
    obtain ⟨c, c0, hc, he, hm⟩ := pth_kid h (i := i) (by omega)
    have := ih (i + 1) (by omega)
    rw [show i + 1 + g = i + (g + 1) by omega, he, show d - (i + 1) = d - i - 1 by omega] at this
    obtain ⟨w, hw⟩ : ∃ w, d - i = w + 1 := ⟨d - i - 1, by omega⟩
    rw [hw] at this ⊢
    exact fpT_kid hm this
/-- the nodes of the path below a level lie under the child there: not at the level's own node, nor under another child -/
theorem pth_off {α : Type} {V : Nat → Prop} {ns : Nat → List α × List Int} {s : Nat → Nat} {d n0 i j : Nat} (h : PthOK V ns s d n0) (hi : i < j) (hj : j ≤ d) : pthT ns s n0 i ≠ pthT ns s n0 j ∧ ∀ k c, (ns (pthT ns s n0 i)).2[k]? = some c → k ≠ s i → pthT ns s n0 j ∉ fpT ns (d - (i + 1)) c.toNat := by
  obtain ⟨c, c0, hc, he, hm⟩ := pth_kid h (i := i) (by omega)
  have h1 := pth_in h (j - (i + 1)) (i + 1) (by omega)
  rw [show i + 1 + (j - (i + 1)) = j by omega, he] at h1
  obtain ⟨h2, h3⟩ := pth_wf h i (by omega)
  obtain ⟨g, hg⟩ : ∃ g, d - i = g + 1 := ⟨d - i - 1, by omega⟩
  rw [hg] at h3
  have hg2 : d - (i + 1) = g := by omega
  rw [hg2] at h1 ⊢
  refine ⟨fun e => (fp_nd_kid h3 hm).2 (e ▸ h1), fun k c' hk hne => ?_⟩
  exact nd_flat (List.nodup_cons.mp h3).2 hc hk (Ne.symm hne) _ h1
