/-! trees under a map of their keys -/
def mapT {α β : Type} (f : α → β) : (h : Nat) → Tr α h → Tr β h
  | 0, t => List.map f t
  | h + 1, t => (t.1.map f, t.2.map (mapT f h))
section MAP
variable {α β : Type} (f : α → β)
theorem mkT_map (ns : Nat → List α × List Int) : ∀ (h n : Nat), mkT (fun m => ((ns m).1.map f, (ns m).2)) h n = mapT f h (mkT ns h n)
  | 0, n => rfl
  | h + 1, n => by
    show ((ns n).1.map f, (ns n).2.map (fun c => mkT (fun m => ((ns m).1.map f, (ns m).2)) h c.toNat)) = ((ns n).1.map f, ((ns n).2.map (fun c => mkT ns h c.toNat)).map (mapT f h))
    rw [List.map_map]
    congr 1
    exact List.map_congr_left (fun c _ => mkT_map ns h c.toNat)
theorem kyT_map : ∀ (h : Nat) (t : Tr α h), kyT h (mapT f h t) = (kyT h t).map f
  | 0, _ => rfl
  | _ + 1, _ => rfl
theorem lfT_map : ∀ (h : Nat) (t : Tr α h), lfT h (mapT f h t) = mapT f h (lfT h t)
  | 0, t => List.map_take.symm
  | h + 1, t => by
    show ((t.1.map f).take 2, (t.2.map (mapT f h)).take 3) = ((t.1.take 2).map f, (t.2.take 3).map (mapT f h))
    rw [List.map_take, List.map_take]
theorem rtT_map : ∀ (h : Nat) (t : Tr α h), rtT h (mapT f h t) = mapT f h (rtT h t)
  | 0, t => List.map_drop.symm
  | h + 1, t => by
    show ((t.1.map f).drop 3, (t.2.map (mapT f h)).drop 3) = ((t.1.drop 3).map f, (t.2.drop 3).map (mapT f h))
    rw [List.map_drop, List.map_drop]
theorem insP_map (s : Nat → Nat) (e : α) : ∀ (h i : Nat) (t : Tr α h), insP s (f e) h i (mapT f h t) = mapT f h (insP s e h i t)
  | 0, i, t => (insL_map f t (s i) e).symm
  | h + 1, i, t => by
    show (match (t.2.map (mapT f h))[s i]? with | none => mapT f (h + 1) t | some u => match (kyT h (insP s (f e) h (i + 1) u))[4]? with | none => (t.1.map f, (t.2.map (mapT f h)).set (s i) (insP s (f e) h (i + 1) u)) | some _ => match (kyT h (insP s (f e) h (i + 1) u))[2]? with | none => mapT f (h + 1) t | some x => (insL (t.1.map f) (s i) x, insL ((t.2.map (mapT f h)).set (s i) (lfT h (insP s (f e) h (i + 1) u))) (s i + 1) (rtT h (insP s (f e) h (i + 1) u)))) = mapT f (h + 1) (insP s e (h + 1) i t)
    conv => rhs; unfold insP
    rw [List.getElem?_map]
    cases hu : t.2[s i]? with
    | none => rfl
    | some u =>
      simp only [Option.map_some]
      rw [insP_map s e h (i + 1) u, kyT_map, List.getElem?_map, List.getElem?_map]
      cases h4 : (kyT h (insP s e h (i + 1) u))[4]? with
      | none =>
        show (t.1.map f, (t.2.map (mapT f h)).set (s i) _) = (t.1.map f, (t.2.set (s i) _).map (mapT f h))
        rw [List.map_set]
      | some w =>
        cases h2 : (kyT h (insP s e h (i + 1) u))[2]? with
        | none => rfl
        | some x =>
          show (insL (t.1.map f) (s i) (f x), insL ((t.2.map (mapT f h)).set (s i) _) (s i + 1) _) = ((insL t.1 (s i) x).map f, (insL (t.2.set (s i) _) (s i + 1) _).map (mapT f h))
          rw [insL_map, insL_map, List.map_set, lfT_map, rtT_map]
theorem dlT_map : ∀ (h : Nat) (t : Tr α h), dlT h (mapT f h t) = mapT f h (dlT h t)
  | 0, t => (@List.map_dropLast _ _ f t).symm
  | h + 1, t => by
    show ((t.1.map f).dropLast, (t.2.map (mapT f h)).dropLast) = ((t.1.dropLast).map f, (t.2.dropLast).map (mapT f h))
    rw [List.map_dropLast, List.map_dropLast]
theorem tlT_map : ∀ (h : Nat) (t : Tr α h), tlT h (mapT f h t) = mapT f h (tlT h t)
  | 0, t => (@List.map_tail _ _ f t).symm
  | h + 1, t => by
    show ((t.1.map f).tail, (t.2.map (mapT f h)).tail) = ((t.1.tail).map f, (t.2.tail).map (mapT f h))
    rw [List.map_tail, List.map_tail]
theorem ol_map {γ δ : Type} (g : γ → δ) (o : Option γ) : (o.map g).toList = o.toList.map g := by cases o <;> rfl
theorem coT_map (x : α) : ∀ (h : Nat) (l r : Tr α h), coT (f x) h (mapT f h l) (mapT f h r) = mapT f h (coT x h l r)
  | 0, l, r => rfl
  | h + 1, l, r => by
    show (f x :: r.1.map f, (l.2.map (mapT f h)).getLast?.toList ++ r.2.map (mapT f h)) = ((x :: r.1).map f, (l.2.getLast?.toList ++ r.2).map (mapT f h))
    rw [List.getLast?_map, ol_map, List.map_append, List.map_cons]
theorem snT_map (x : α) : ∀ (h : Nat) (l r : Tr α h), snT (f x) h (mapT f h l) (mapT f h r) = mapT f h (snT x h l r)
  | 0, l, r => by show List.map f l ++ [f x] = List.map f (List.append l [x]); exact (List.map_append (l₁ := l) (l₂ := [x])).symm
  | h + 1, l, r => by
    show (l.1.map f ++ [f x], l.2.map (mapT f h) ++ (r.2.map (mapT f h)).head?.toList) = ((l.1 ++ [x]).map f, (l.2 ++ r.2.head?.toList).map (mapT f h))
    rw [List.head?_map, ol_map, List.map_append, List.map_append]
    rfl
theorem joT_map (x : α) : ∀ (h : Nat) (l r : Tr α h), joT (f x) h (mapT f h l) (mapT f h r) = mapT f h (joT x h l r)
  | 0, l, r => by show List.map f l ++ (f x :: List.map f r) = List.map f (List.append l (x :: r)); exact (List.map_append (l₁ := l) (l₂ := x :: r)).symm
  | h + 1, l, r => by
    show (l.1.map f ++ f x :: r.1.map f, l.2.map (mapT f h) ++ r.2.map (mapT f h)) = ((l.1 ++ x :: r.1).map f, (l.2 ++ r.2).map (mapT f h))
    rw [List.map_append, List.map_append]
    rfl
theorem lnT_map (h : Nat) (D : List (Tr α h)) (j : Nat) : lnT h (D.map (mapT f h)) j = lnT h D j := by
  unfold lnT
  rw [List.getElem?_map]
  cases D[j]? with
  | none => rfl
  | some c =>
    show (kyT h (mapT f h c)).length = _
    rw [kyT_map, List.length_map]
theorem rotL_map (h b : Nat) (t : Tr α (h + 1)) : rotL h b (mapT f (h + 1) t) = mapT f (h + 1) (rotL h b t) := by
  have e1 : (mapT f (h + 1) t).1 = t.1.map f := rfl
  have e2 : (mapT f (h + 1) t).2 = t.2.map (mapT f h) := rfl
  unfold rotL
  rw [e1, e2, List.getElem?_map, List.getElem?_map, List.getElem?_map]
  cases t.1[b]? with
  | none => rfl
  | some x =>
    cases t.2[b]? with
    | none => rfl
    | some l =>
      cases t.2[b + 1]? with
      | none => rfl
      | some r =>
        simp only [Option.map_some]
        rw [kyT_map, List.getLast?_map]
        cases (kyT h l).getLast? with
        | none => rfl
        | some y =>
          show ((t.1.map f).take b ++ f y :: (t.1.map f).drop (b + 1), (t.2.map (mapT f h)).take b ++ ([dlT h (mapT f h l), coT (f x) h (mapT f h l) (mapT f h r)] ++ (t.2.map (mapT f h)).drop (b + 2))) = ((t.1.take b ++ y :: t.1.drop (b + 1)).map f, (t.2.take b ++ ([dlT h l, coT x h l r] ++ t.2.drop (b + 2))).map (mapT f h))
          rw [dlT_map, coT_map]
          simp [List.map_append, List.map_take, List.map_drop]
theorem rotR_map (h b : Nat) (t : Tr α (h + 1)) : rotR h b (mapT f (h + 1) t) = mapT f (h + 1) (rotR h b t) := by
  have e1 : (mapT f (h + 1) t).1 = t.1.map f := rfl
  have e2 : (mapT f (h + 1) t).2 = t.2.map (mapT f h) := rfl
  unfold rotR
  rw [e1, e2, List.getElem?_map, List.getElem?_map, List.getElem?_map]
  cases t.1[b]? with
  | none => rfl
  | some x =>
    cases t.2[b]? with
    | none => rfl
    | some l =>
      cases t.2[b + 1]? with
      | none => rfl
      | some r =>
        simp only [Option.map_some]
        rw [kyT_map, List.head?_map]
        cases (kyT h r).head? with
        | none => rfl
        | some y =>
          show ((t.1.map f).take b ++ f y :: (t.1.map f).drop (b + 1), (t.2.map (mapT f h)).take b ++ ([snT (f x) h (mapT f h l) (mapT f h r), tlT h (mapT f h r)] ++ (t.2.map (mapT f h)).drop (b + 2))) = ((t.1.take b ++ y :: t.1.drop (b + 1)).map f, (t.2.take b ++ ([snT x h l r, tlT h r] ++ t.2.drop (b + 2))).map (mapT f h))
          rw [tlT_map, snT_map]
          simp [List.map_append, List.map_take, List.map_drop]
theorem joi_map (h b : Nat) (t : Tr α (h + 1)) : joi h b (mapT f (h + 1) t) = mapT f (h + 1) (joi h b t) := by
  have e1 : (mapT f (h + 1) t).1 = t.1.map f := rfl
  have e2 : (mapT f (h + 1) t).2 = t.2.map (mapT f h) := rfl
  unfold joi
  rw [e1, e2, List.getElem?_map, List.getElem?_map, List.getElem?_map]
  cases t.1[b]? with
  | none => rfl
  | some x =>
    cases t.2[b]? with
    | none => rfl
    | some l =>
      cases t.2[b + 1]? with
      | none => rfl
      | some r =>
        simp only [Option.map_some]
        show ((t.1.map f).take b ++ (t.1.map f).drop (b + 1), (t.2.map (mapT f h)).take b ++ ([joT (f x) h (mapT f h l) (mapT f h r)] ++ (t.2.map (mapT f h)).drop (b + 2))) = ((t.1.take b ++ t.1.drop (b + 1)).map f, (t.2.take b ++ ([joT x h l r] ++ t.2.drop (b + 2))).map (mapT f h))
        rw [joT_map]
        simp [List.map_append, List.map_take, List.map_drop]
theorem mendT_map (h k : Nat) (t : Tr α (h + 1)) : mendT h k (mapT f (h + 1) t) = mapT f (h + 1) (mendT h k t) := by
  have e1 : (mapT f (h + 1) t).1 = t.1.map f := rfl
  have e2 : (mapT f (h + 1) t).2 = t.2.map (mapT f h) := rfl
  unfold mendT
  rw [e2, lnT_map, lnT_map, lnT_map, e1, List.length_map, rotL_map, rotR_map, joi_map, joi_map]
  split
  · rfl
  · split
    · rfl
    · split
      · rfl
      · split
        · rfl
        · rfl
theorem remL_map (l : List α) (k : Nat) : remL (l.map f) k = (remL l k).map f := by
  simp [remL, List.map_append, List.map_take, List.map_drop]
theorem delP_map (s : Nat → Nat) : ∀ (h i : Nat) (t : Tr α h), delP s h i (mapT f h t) = mapT f h (delP s h i t)
  | 0, i, t => remL_map f t (s i)
  | h + 1, i, t => by
    cases hu : t.2[s i]? with
    | none =>
      have h2 : (mapT f (h + 1) t).2[s i]? = none := by
        show (t.2.map (mapT f h))[s i]? = none
        rw [List.getElem?_map, hu]; rfl
      unfold delP
      rw [h2, hu]
    | some u =>
      have h2 : (mapT f (h + 1) t).2[s i]? = some (mapT f h u) := by
        show (t.2.map (mapT f h))[s i]? = _
        rw [List.getElem?_map, hu]; rfl
      rw [delP_s h2, delP_s hu, delP_map s h (i + 1) u]
      refine Eq.trans (congrArg (mendT h (s i)) ?_) (mendT_map f h (s i) _)
      show (t.1.map f, (t.2.map (mapT f h)).set (s i) _) = (t.1.map f, (t.2.set (s i) _).map (mapT f h))
      rw [List.map_set]
theorem itr_map : ∀ (ks : List α) (ls : List (List α)), (itr ks ls).map f = itr (ks.map f) (ls.map (List.map f))
  | _, [] => by simp [itr]
  | [], l :: _ => by simp [itr]
  | k :: ks, l :: ls => by simp [itr, itr_map ks ls]
theorem inT_map : ∀ (h : Nat) (t : Tr α h), inT h (mapT f h t) = (inT h t).map f
  | 0, t => rfl
  | h + 1, t => by
    show itr (t.1.map f) ((t.2.map (mapT f h)).map (inT h)) = (itr t.1 (t.2.map (inT h))).map f
    rw [itr_map, List.map_map, List.map_map]
    congr 1
    exact List.map_congr_left (fun u _ => inT_map h u)
end MAP
/-- a key on a path becomes another -/
def repP {α : Type} (s : Nat → Nat) (f : Nat) (x : α) : (h : Nat) → Nat → Tr α h → Tr α h
  | 0, i, t => if i = f then List.set t (s i) x else t
  | h + 1, i, t => if i = f then (t.1.set (s i) x, t.2) else match t.2[s i]? with
    | none => t
    | some u => (t.1, t.2.set (s i) (repP s f x h (i + 1) u))
theorem repP_0e {α : Type} {s : Nat → Nat} {f i : Nat} {x : α} {t : Tr α 0} (h : i = f) : repP s f x 0 i t = List.set t (s i) x := by
  unfold repP; exact if_pos h
theorem repP_0n {α : Type} {s : Nat → Nat} {f i : Nat} {x : α} {t : Tr α 0} (h : ¬ i = f) : repP s f x 0 i t = t := by
  unfold repP; exact if_neg h
theorem repP_e {α : Type} {s : Nat → Nat} {f i h : Nat} {x : α} {t : Tr α (h + 1)} (e : i = f) : repP s f x (h + 1) i t = (t.1.set (s i) x, t.2) := by
  unfold repP; exact if_pos e
theorem repP_n {α : Type} {s : Nat → Nat} {f i h : Nat} {x : α} {t : Tr α (h + 1)} (e : ¬ i = f) (hu : t.2[s i]? = none) : repP s f x (h + 1) i t = t := by
  unfold repP
  refine (if_neg e).trans ?_
  rw [hu]
theorem repP_s {α : Type} {s : Nat → Nat} {f i h : Nat} {x : α} {t : Tr α (h + 1)} {u : Tr α h} (e : ¬ i = f) (hu : t.2[s i]? = some u) : repP s f x (h + 1) i t = (t.1, t.2.set (s i) (repP s f x h (i + 1) u)) := by
  conv => lhs; unfold repP
  refine (if_neg e).trans ?_
  rw [hu]
theorem repP_map {α β : Type} (f : α → β) (s : Nat → Nat) (v : Nat) (x : α) : ∀ (h i : Nat) (t : Tr α h), repP s v (f x) h i (mapT f h t) = mapT f h (repP s v x h i t)
  | 0, i, t => by
    by_cases e : i = v
    · rw [repP_0e e, repP_0e e]
      exact (@List.map_set _ _ f t (s i) x).symm
    · rw [repP_0n e, repP_0n e]
  | h + 1, i, t => by
    by_cases e : i = v
    · rw [repP_e e, repP_e e]
      show ((t.1.map f).set (s i) (f x), t.2.map (mapT f h)) = ((t.1.set (s i) x).map f, t.2.map (mapT f h))
      rw [List.map_set]
    · cases hu : t.2[s i]? with
      | none =>
        have h2 : (mapT f (h + 1) t).2[s i]? = none := by
          show (t.2.map (mapT f h))[s i]? = none
          rw [List.getElem?_map, hu]; rfl
        rw [repP_n e h2, repP_n e hu]
      | some u =>
        have h2 : (mapT f (h + 1) t).2[s i]? = some (mapT f h u) := by
          show (t.2.map (mapT f h))[s i]? = _
          rw [List.getElem?_map, hu]; rfl
        rw [repP_s e h2, repP_s e hu, repP_map f s v x h (i + 1) u]
        show (t.1.map f, (t.2.map (mapT f h)).set (s i) _) = (t.1.map f, (t.2.set (s i) (repP s v x h (i + 1) u)).map (mapT f h))
        rw [List.map_set]
/-- the store with that key changed -/
theorem mkT_rep {α : Type} {V : Nat → Prop} {ns0 ns1 : Nat → List α × List Int} {s : Nat → Nat} {f n0 : Nat} {x : α} : ∀ (h i : Nat), (∀ d, d = i + h → f ≤ d → i ≤ f → PthOK V ns0 s d n0 → ns1 (pthT ns0 s n0 f) = ((ns0 (pthT ns0 s n0 f)).1.set (s f) x, (ns0 (pthT ns0 s n0 f)).2) → (∀ m, V m → m ≠ pthT ns0 s n0 f → ns1 m = ns0 m) →
    mkT ns1 h (pthT ns0 s n0 i) = repP s f x h i (mkT ns0 h (pthT ns0 s n0 i)))
  | 0, i => by
    intro d hd hf hi hp h1 h2
    have : i = f := by omega
    subst this
    rw [repP_0e rfl]
    show (ns1 _).1 = (ns0 _).1.set (s i) x
    rw [h1]
  | h + 1, i => by
    intro d hd hf hi hp h1 h2
    obtain ⟨c, c0, hc, he, hmem⟩ := pth_kid hp (i := i) (by omega)
    obtain ⟨w, wn⟩ := pth_wf hp i (by omega)
    rw [show d - i = h + 1 by omega] at w wn
    by_cases e : i = f
    · rw [repP_e e]
      subst e
      show ((ns1 _).1, (ns1 _).2.map (fun c => mkT ns1 h c.toNat)) = ((ns0 _).1.set (s i) x, (ns0 _).2.map (fun c => mkT ns0 h c.toNat))
      rw [h1]
      congr 1
      refine List.map_congr_left (fun c' hc' => mkT_congr h c'.toNat (fun m hm => ?_))
      exact h2 m (wfT_V w m (fpT_kid hc' hm)) (fun z => (fp_nd_kid wn hc').2 (z ▸ hm))
    · rw [repP_s e (mkT_k hc)]
      have o1 : ns1 (pthT ns0 s n0 i) = ns0 (pthT ns0 s n0 i) := h2 _ w.1 (pth_off hp (by omega) hf).1
      have o2 : ∀ k c', (ns0 (pthT ns0 s n0 i)).2[k]? = some c' → k ≠ s i → ∀ m ∈ fpT ns0 h c'.toNat, ns1 m = ns0 m := by
        intro k c' hk hne m hm
        refine h2 m (wfT_V w m (fpT_kid (List.mem_of_getElem? hk) hm)) (fun z => ?_)
        refine (pth_off hp (show i < f by omega) hf).2 k c' hk hne ?_
        rw [show d - (i + 1) = h by omega]
        exact z ▸ hm
      rw [mkT_kid o1 hc o2]
      have ih := mkT_rep (V := V) (ns1 := ns1) (x := x) h (i + 1) d (by omega) hf (by omega) hp h1 h2
      rw [he] at ih
      rw [ih]
      rfl
