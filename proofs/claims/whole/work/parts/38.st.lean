/-! trees of any height, as the document has them -/
abbrev TS (α : Type) : Type := (h : Nat) × Tr α h
def topT {α : Type} (h : Nat) (t : Tr α h) : TS α := match (kyT h t)[4]?, (kyT h t)[2]? with
  | some _, some x => ⟨h + 1, ([x], [lfT h t, rtT h t])⟩
  | _, _ => ⟨h, t⟩
def shrT {α : Type} : (h : Nat) → Tr α h → TS α
  | 0, t => ⟨0, t⟩
  | h + 1, t => if t.1.length = 0 then (match t.2[0]? with
    | some u => ⟨h, u⟩
    | none => ⟨h + 1, t⟩) else ⟨h + 1, t⟩
def mapS {α β : Type} (f : α → β) (T : TS α) : TS β := ⟨T.1, mapT f T.1 T.2⟩
theorem topT_4 {α : Type} {h : Nat} {t : Tr α h} (h4 : (kyT h t).length ≤ 4) : topT h t = ⟨h, t⟩ := by
  unfold topT
  rw [List.getElem?_eq_none h4]
theorem topT_5 {α : Type} {h : Nat} {t : Tr α h} {x : α} (h5 : (kyT h t).length = 5) (hx : (kyT h t)[2]? = some x) : topT h t = ⟨h + 1, (([x], [lfT h t, rtT h t]) : Tr α (h + 1))⟩ := by
  unfold topT
  rw [hx, List.getElem?_eq_getElem (show 4 < (kyT h t).length by omega)]
theorem shrT_0 {α : Type} {h : Nat} {t : Tr α (h + 1)} {u : Tr α h} (h0 : t.1.length = 0) (hu : t.2[0]? = some u) : shrT (h + 1) t = ⟨h, u⟩ := by
  show (if t.1.length = 0 then _ else _) = _
  rw [if_pos h0, hu]
theorem shrT_1 {α : Type} {h : Nat} {t : Tr α (h + 1)} (h0 : ¬ t.1.length = 0) : shrT (h + 1) t = ⟨h + 1, t⟩ := if_neg h0
theorem topT_map {α β : Type} (f : α → β) {h : Nat} (t : Tr α h) : topT h (mapT f h t) = mapS f (topT h t) := by
  unfold topT
  rw [kyT_map, List.getElem?_map, List.getElem?_map]
  cases (kyT h t)[4]? with
  | none => rfl
  | some w =>
    cases (kyT h t)[2]? with
    | none => rfl
    | some x =>
      simp only [Option.map_some]
      show (⟨h + 1, ([f x], [lfT h (mapT f h t), rtT h (mapT f h t)])⟩ : TS β) = ⟨h + 1, ([x].map f, [lfT h t, rtT h t].map (mapT f h))⟩
      rw [lfT_map, rtT_map]
      rfl
theorem shrT_map {α β : Type} (f : α → β) : ∀ {h : Nat} (t : Tr α h), shrT h (mapT f h t) = mapS f (shrT h t)
  | 0, t => rfl
  | h + 1, t => by
    by_cases c : t.1.length = 0
    · have c2 : (mapT f (h + 1) t).1.length = 0 := by
        show (t.1.map f).length = 0
        rw [List.length_map]; exact c
      cases hu : t.2[0]? with
      | none =>
        have hu2 : (mapT f (h + 1) t).2[0]? = none := by
          show (t.2.map (mapT f h))[0]? = none
          rw [List.getElem?_map, hu]; rfl
        have e1 : shrT (h + 1) t = ⟨h + 1, t⟩ := by
          show (if t.1.length = 0 then _ else _) = _
          rw [if_pos c, hu]
        have e2 : shrT (h + 1) (mapT f (h + 1) t) = ⟨h + 1, mapT f (h + 1) t⟩ := by
          show (if (mapT f (h + 1) t).1.length = 0 then _ else _) = _
          rw [if_pos c2, hu2]
        rw [e1, e2]; rfl
      | some u =>
        have hu2 : (mapT f (h + 1) t).2[0]? = some (mapT f h u) := by
          show (t.2.map (mapT f h))[0]? = _
          rw [List.getElem?_map, hu]; rfl
        rw [shrT_0 c hu, shrT_0 c2 hu2]; rfl
    · have c2 : ¬ (mapT f (h + 1) t).1.length = 0 := by
        show ¬ (t.1.map f).length = 0
        rw [List.length_map]; exact c
      rw [shrT_1 c, shrT_1 c2]; rfl
def addT (e : E) (T : TS E) : TS E := if fnT e T.1 T.2 then T else topT T.1 (insP (slT e T.1 T.2) e T.1 0 T.2)
def cutT (e : E) (T : TS E) : TS E := if fnT e T.1 T.2 then shrT T.1 (delP (dsT e T.1 T.2) T.1 0 (r1T e (dsT e T.1 T.2) T.1 0 T.2)) else T
def lsT {α : Type} (T : TS α) : List α := inT T.1 T.2
def rtA (h : Nat) : Nat := if h = 0 then 0 else 1
def good (T : TS E) : Prop := fil T.1 (rtA T.1) 4 T.2 ∧ (lsT T).Pairwise elt
theorem ins_facts {e : E} {T : TS E} (hg : good T) (hn : fnT e T.1 T.2 = false) : fil T.1 (rtA T.1) 5 (insP (slT e T.1 T.2) e T.1 0 T.2) ∧ ∃ A B, lsT T = A ++ B ∧ inT T.1 (insP (slT e T.1 T.2) e T.1 0 T.2) = A ++ e :: B ∧ (∀ x ∈ A, elt x e) ∧ (∀ x ∈ B, elt e x) := by
  obtain ⟨l1, l2⟩ := lh_ok (e := e) (s := slT e T.1 T.2) (i := 0) hg.1 hg.2 hn (fun j _ => by rw [Nat.zero_add])
  obtain ⟨g1, A, B, gA, gB, gL⟩ := ins_ok (lo := fun x => elt x e) (hi := fun x => elt e x) (e := e) hg.1 l1
  exact ⟨g1, A, B, gA, gB, gL l2⟩
theorem fnT_mem {e : E} : ∀ {h a b : Nat} {t : Tr E h}, fil h a b t → fnT e h t = true → e ∈ inT h t
  | 0, _, _, t, _, hn => List.mem_of_getElem? ((hit_iff (e := e) (ks := t)).mp hn)
  | h + 1, _, _, t, hf, hn => by
    obtain ⟨f1, f2, f3, f4⟩ := hf
    have kle := kc_le e t.1
    obtain ⟨u, hu⟩ : ∃ u, t.2[kc e t.1]? = some u := ⟨_, List.getElem?_eq_getElem (by omega)⟩
    have hn2 : (hit e t.1 || match t.2[kc e t.1]? with | some u => fnT e h u | none => false) = true := hn
    rw [hu] at hn2
    by_cases hh : hit e t.1 = true
    · exact inT_keys f3 (hit_iff.mp hh)
    · have hh' : hit e t.1 = false := by simpa using hh
      rw [hh'] at hn2
      exact inT_kid f3 hu (fnT_mem (f4 u (List.mem_of_getElem? hu)) (by simpa using hn2))
theorem fnT_iff {e : E} {T : TS E} (hg : good T) : fnT e T.1 T.2 = true ↔ e ∈ lsT T := by
  constructor
  · exact fnT_mem hg.1
  · intro hm
    cases hn : fnT e T.1 T.2 with
    | true => rfl
    | false =>
      obtain ⟨-, A, B, hA, -, hl, hh⟩ := ins_facts hg hn
      rw [hA] at hm
      rcases List.mem_append.mp hm with h | h
      · exact absurd (hl e h) (elt_irr e)
      · exact absurd (hh e h) (elt_irr e)
theorem add_good {e : E} {T : TS E} (hg : good T) : good (addT e T) ∧ (∀ x, x ∈ lsT (addT e T) ↔ x = e ∨ x ∈ lsT T) ∧ (lsT (addT e T)).length ≤ (lsT T).length + 1 := by
  unfold addT
  by_cases hn : fnT e T.1 T.2 = true
  · rw [if_pos hn]
    have := (fnT_iff hg).mp hn
    exact ⟨hg, fun x => ⟨fun h => Or.inr h, fun h => h.elim (fun z => z ▸ this) id⟩, by omega⟩
  · rw [if_neg hn]
    obtain ⟨g1, A, B, hA, hB, hl, hh⟩ := ins_facts hg (by simpa using hn)
    have hs := hg.2
    rw [hA] at hs
    have ps := List.pairwise_append.mp hs
    have sorted : (A ++ e :: B).Pairwise elt := by
      refine List.pairwise_append.mpr ⟨ps.1, List.pairwise_cons.mpr ⟨hh, ps.2.1⟩, fun a ha b hb => ?_⟩
      rcases List.mem_cons.mp hb with h | h
      · subst h; exact hl a ha
      · exact ps.2.2 a ha b h
    have mem : ∀ x, x ∈ A ++ e :: B ↔ x = e ∨ x ∈ lsT T := by
      intro x
      rw [hA]
      simp only [List.mem_append, List.mem_cons]
      constructor
      · rintro (h | h | h)
        · exact Or.inr (Or.inl h)
        · exact Or.inl h
        · exact Or.inr (Or.inr h)
      · rintro (h | h | h)
        · exact Or.inr (Or.inl h)
        · exact Or.inl h
        · exact Or.inr (Or.inr h)
    have len : (A ++ e :: B).length ≤ (lsT T).length + 1 := by rw [hA]; simp; omega
    by_cases c : (kyT T.1 (insP (slT e T.1 T.2) e T.1 0 T.2)).length ≤ 4
    · rw [topT_4 c]
      refine ⟨⟨fil_len g1 (fil_ky g1).1 c, ?_⟩, ?_, ?_⟩
      · show (inT T.1 (insP (slT e T.1 T.2) e T.1 0 T.2)).Pairwise elt
        rw [hB]; exact sorted
      · show ∀ x, x ∈ inT T.1 (insP (slT e T.1 T.2) e T.1 0 T.2) ↔ _
        rw [hB]; exact mem
      · show (inT T.1 (insP (slT e T.1 T.2) e T.1 0 T.2)).length ≤ _
        rw [hB]; exact len
    · have c5 : (kyT T.1 (insP (slT e T.1 T.2) e T.1 0 T.2)).length = 5 := by have := (fil_ky g1).2; omega
      obtain ⟨x, hx⟩ : ∃ x, (kyT T.1 (insP (slT e T.1 T.2) e T.1 0 T.2))[2]? = some x := ⟨_, List.getElem?_eq_getElem (by omega)⟩
      obtain ⟨q1, q2, q3⟩ := half_in (fil_mono g1 (by omega) (Nat.le_refl _)) c5 hx
      rw [topT_5 c5 hx]
      have ei : lsT (⟨T.1 + 1, ([x], [lfT T.1 (insP (slT e T.1 T.2) e T.1 0 T.2), rtT T.1 (insP (slT e T.1 T.2) e T.1 0 T.2)])⟩ : TS E) = A ++ e :: B := by
        rw [← hB, q1]
        rfl
      refine ⟨⟨⟨by show rtA (T.1 + 1) ≤ 1; unfold rtA; rw [if_neg (by omega)]; decide, by show 1 ≤ 4; omega, rfl, ?_⟩, by rw [ei]; exact sorted⟩, by rw [ei]; exact mem, by rw [ei]; exact len⟩
      intro u hu
      rcases List.mem_cons.mp hu with h | h
      · subst h; exact q2
      · have := List.mem_singleton.mp h
        subst this; exact q3
theorem cut_good {e : E} {T : TS E} (hg : good T) : good (cutT e T) ∧ (∀ x, x ∈ lsT (cutT e T) ↔ x ≠ e ∧ x ∈ lsT T) ∧ (lsT (cutT e T)).length ≤ (lsT T).length := by
  unfold cutT
  by_cases hn : fnT e T.1 T.2 = true
  · rw [if_pos hn]
    obtain ⟨h, t⟩ := T
    have ha : 0 < h → 1 ≤ rtA h := fun z => by unfold rtA; rw [if_neg (by omega)]; exact Nat.le_refl _
    obtain ⟨g1, A, B, hA, hB⟩ := del_ok (e := e) (s := dsT e h t) (i := 0) hg.1 ha hn (fun j _ => by rw [Nat.zero_add])
    have hs : (inT h t).Pairwise elt := hg.2
    rw [hA] at hs
    have ps := List.pairwise_append.mp hs
    have pc := List.pairwise_cons.mp ps.2.1
    have sorted : (A ++ B).Pairwise elt := List.pairwise_append.mpr ⟨ps.1, pc.2, fun a ha b hb => ps.2.2 a ha b (List.mem_cons_of_mem _ hb)⟩
    have mem : ∀ x, x ∈ A ++ B ↔ x ≠ e ∧ x ∈ inT h t := by
      intro x
      rw [hA]
      simp only [List.mem_append, List.mem_cons]
      constructor
      · rintro (h | h)
        · exact ⟨fun z => elt_irr e (z ▸ ps.2.2 x h e List.mem_cons_self), Or.inl h⟩
        · exact ⟨fun z => elt_irr e (z ▸ pc.1 x h), Or.inr (Or.inr h)⟩
      · rintro ⟨h0, h | h | h⟩
        · exact Or.inl h
        · exact absurd h h0
        · exact Or.inr h
    have len : (A ++ B).length ≤ (inT h t).length := by rw [hA]; simp
    have fin : ∀ S : TS E, fil S.1 (rtA S.1) 4 S.2 → lsT S = A ++ B → good S ∧ (∀ x, x ∈ lsT S ↔ x ≠ e ∧ x ∈ inT h t) ∧ (lsT S).length ≤ (inT h t).length := by
      intro S h1 h2
      refine ⟨⟨h1, ?_⟩, ?_, ?_⟩
      · rw [h2]; exact sorted
      · rw [h2]; exact mem
      · rw [h2]; exact len
    show good (shrT h (delP (dsT e h t) h 0 (r1T e (dsT e h t) h 0 t))) ∧ (∀ x, x ∈ lsT (shrT h (delP (dsT e h t) h 0 (r1T e (dsT e h t) h 0 t))) ↔ x ≠ e ∧ x ∈ inT h t) ∧ (lsT (shrT h (delP (dsT e h t) h 0 (r1T e (dsT e h t) h 0 t)))).length ≤ (inT h t).length
    cases h with
    | zero => exact fin ⟨0, delP (dsT e 0 t) 0 0 (r1T e (dsT e 0 t) 0 0 t)⟩ (fil_mono g1 (Nat.zero_le _) (Nat.le_refl _)) hB
    | succ h =>
      by_cases c : (delP (dsT e (h + 1) t) (h + 1) 0 (r1T e (dsT e (h + 1) t) (h + 1) 0 t)).1.length = 0
      · obtain ⟨f1, f2, f3, f4⟩ := g1
        have f3' : (delP (dsT e (h + 1) t) (h + 1) 0 (r1T e (dsT e (h + 1) t) (h + 1) 0 t)).2.length = (delP (dsT e (h + 1) t) (h + 1) 0 (r1T e (dsT e (h + 1) t) (h + 1) 0 t)).1.length + 1 := f3
        obtain ⟨u, hu⟩ : ∃ u, (delP (dsT e (h + 1) t) (h + 1) 0 (r1T e (dsT e (h + 1) t) (h + 1) 0 t)).2[0]? = some u := ⟨_, List.getElem?_eq_getElem (by omega)⟩
        rw [shrT_0 c hu]
        refine fin _ (fil_mono (f4 u (List.mem_of_getElem? hu)) ?_ (Nat.le_refl _)) ?_
        · show rtA h ≤ 2
          unfold rtA; split <;> omega
        · rw [← hB]
          have e0 := inT_at0 (K := (delP (dsT e (h + 1) t) (h + 1) 0 (r1T e (dsT e (h + 1) t) (h + 1) 0 t)).1) (D := (delP (dsT e (h + 1) t) (h + 1) 0 (r1T e (dsT e (h + 1) t) (h + 1) 0 t)).2) f3 hu
          refine Eq.trans ?_ e0.symm
          rw [List.length_eq_zero_iff.mp c]
          show inT h u = [] ++ (inT h u ++ [])
          simp
      · rw [shrT_1 c]
        refine fin ⟨h + 1, delP (dsT e (h + 1) t) (h + 1) 0 (r1T e (dsT e (h + 1) t) (h + 1) 0 t)⟩ (fil_len g1 ?_ (fil_ky g1).2) hB
        show rtA (h + 1) ≤ (delP (dsT e (h + 1) t) (h + 1) 0 (r1T e (dsT e (h + 1) t) (h + 1) 0 t)).1.length
        unfold rtA; rw [if_neg (by omega)]; omega
  · rw [if_neg hn]
    have nm : e ∉ lsT T := fun z => hn ((fnT_iff hg).mpr z)
    exact ⟨hg, fun x => ⟨fun h => ⟨fun z => nm (z ▸ h), h⟩, fun h => h.2⟩, Nat.le_refl _⟩
/-! how many nodes, how deep -/
def ndT {α : Type} : (h : Nat) → Tr α h → Nat
  | 0, _ => 1
  | h + 1, t => 1 + (t.2.map (ndT h)).sum
theorem fpT_nd {α : Type} (ns : Nat → List α × List Int) : ∀ (h n : Nat), (fpT ns h n).length = ndT h (mkT ns h n)
  | 0, _ => rfl
  | h + 1, n => by
    show ((ns n).2.flatMap (fun c => fpT ns h c.toNat)).length + 1 = 1 + (((ns n).2.map (fun c => mkT ns h c.toNat)).map (ndT h)).sum
    rw [List.length_flatMap, List.map_map, Nat.add_comm]
    congr 2
    exact List.map_congr_left (fun c _ => fpT_nd ns h c.toNat)
theorem itr_cnt {α : Type} : ∀ {K : List α} {D : List (List α)}, D.length = K.length + 1 → (itr K D).length = K.length + (D.map List.length).sum
  | [], [d], _ => by simp [itr]
  | k :: ks, d :: ds, h => by
    have ih := itr_cnt (K := ks) (D := ds) (by simpa using h)
    simp only [itr, List.length_append, List.length_cons, ih, List.map_cons, List.sum_cons]
    omega
  | [], [], h => by simp at h
  | [], d :: d2 :: ds, h => by simp at h
  | k :: ks, [], h => by simp at h
theorem sum_ge {β : Type} {f g : β → Nat} (c : Nat) : ∀ (l : List β), (∀ x ∈ l, c * g x ≤ f x) → c * (l.map g).sum ≤ (l.map f).sum
  | [], _ => by simp
  | x :: l, h => by
    have := sum_ge c l (fun y hy => h y (List.mem_cons_of_mem _ hy))
    have h0 := h x List.mem_cons_self
    simp only [List.map_cons, List.sum_cons, Nat.mul_add]
    omega
theorem sum_low {β : Type} {f : β → Nat} (c : Nat) : ∀ (l : List β), (∀ x ∈ l, c ≤ f x) → c * l.length ≤ (l.map f).sum
  | [], _ => by simp
  | x :: l, h => by
    have := sum_low c l (fun y hy => h y (List.mem_cons_of_mem _ hy))
    have h0 := h x List.mem_cons_self
    simp only [List.map_cons, List.sum_cons, List.length_cons, Nat.mul_add]
    omega
theorem nd_le {α : Type} : ∀ {h a b : Nat} {t : Tr α h}, fil h a b t → 2 * ndT h t + a ≤ (inT h t).length + 2
  | 0, a, b, t, hf => by
    have h1 : a ≤ List.length t := hf.1
    show 2 * 1 + a ≤ List.length t + 2
    omega
  | h + 1, a, b, t, hf => by
    obtain ⟨f1, f2, f3, f4⟩ := hf
    have hl : (inT (h + 1) t).length = t.1.length + ((t.2.map (inT h)).map List.length).sum := itr_cnt (by rw [List.length_map]; exact f3)
    rw [hl, List.map_map]
    have := sum_ge (f := fun u => (inT h u).length) (g := ndT h) 2 t.2 (fun u hu => by have := nd_le (f4 u hu); omega)
    show 2 * (1 + (t.2.map (ndT h)).sum) + a ≤ t.1.length + (t.2.map (fun u => (inT h u).length)).sum + 2
    omega
theorem ht_le {α : Type} : ∀ {h a b : Nat} {t : Tr α h}, fil h a b t → (a + 1) * 3 ^ h ≤ (inT h t).length + 1
  | 0, a, b, t, hf => by
    have h1 : a ≤ List.length t := hf.1
    show (a + 1) * 1 ≤ List.length t + 1
    omega
  | h + 1, a, b, t, hf => by
    obtain ⟨f1, f2, f3, f4⟩ := hf
    have hl : (inT (h + 1) t).length = t.1.length + ((t.2.map (inT h)).map List.length).sum := itr_cnt (by rw [List.length_map]; exact f3)
    rw [hl, List.map_map]
    have := sum_low (f := fun u => (inT h u).length) (3 * 3 ^ h - 1) t.2 (fun u hu => by have := ht_le (f4 u hu); show 3 * 3 ^ h - 1 ≤ (inT h u).length; omega)
    have p : 0 < 3 ^ h := Nat.pow_pos (by omega)
    obtain ⟨w, hw⟩ : ∃ w, 3 * 3 ^ h = w + 1 := ⟨3 * 3 ^ h - 1, by omega⟩
    have e1 : (a + 1) * 3 ^ (h + 1) = (a + 1) * w + (a + 1) := by rw [Nat.pow_succ, Nat.mul_comm (3 ^ h) 3, hw, Nat.mul_add, Nat.mul_one]
    rw [hw, show w + 1 - 1 = w by omega, f3, Nat.mul_add] at this
    have e2 : (a + 1) * w = a * w + w := by rw [Nat.add_mul]; omega
    have e3 : a * w ≤ w * t.1.length := by rw [Nat.mul_comm]; exact Nat.mul_le_mul_left w f1
    show (a + 1) * 3 ^ (h + 1) ≤ t.1.length + (t.2.map (fun u => (inT h u).length)).sum + 1
    rw [e1, e2]
    omega
theorem ht_good {T : TS E} (hg : good T) (hl : (lsT T).length ≤ 700) : T.1 ≤ 5 := by
  by_cases c : T.1 ≤ 5
  · exact c
  · have := ht_le hg.1
    have h1 : rtA T.1 = 1 := by unfold rtA; rw [if_neg (by omega)]
    rw [h1] at this
    have h2 : 3 ^ 6 ≤ 3 ^ T.1 := Nat.pow_le_pow_right (by omega) (by omega)
    have h3 : (inT T.1 T.2).length ≤ 700 := hl
    omega
theorem nd_good {T : TS E} (hg : good T) : 2 * ndT T.1 T.2 ≤ (lsT T).length + 2 := by
  have := nd_le hg.1
  have h : (inT T.1 T.2).length = (lsT T).length := rfl
  omega
