/-! an entry goes: what stays in order, and how full nodes are -/
section ORDD
variable {α : Type}
theorem mendT_0 {h k : Nat} {t : Tr α (h + 1)} (c : 2 ≤ lnT h t.2 k) : mendT h k t = t := if_pos c
theorem mendT_L {h k : Nat} {t : Tr α (h + 1)} (c : ¬ 2 ≤ lnT h t.2 k) (c1 : 0 < k ∧ 2 < lnT h t.2 (k - 1)) : mendT h k t = rotL h (k - 1) t := (if_neg c).trans (if_pos c1)
theorem mendT_R {h k : Nat} {t : Tr α (h + 1)} (c : ¬ 2 ≤ lnT h t.2 k) (c1 : ¬ (0 < k ∧ 2 < lnT h t.2 (k - 1))) (c2 : k < t.1.length ∧ 2 < lnT h t.2 (k + 1)) : mendT h k t = rotR h k t := (if_neg c).trans ((if_neg c1).trans (if_pos c2))
theorem mendT_J {h k : Nat} {t : Tr α (h + 1)} (c : ¬ 2 ≤ lnT h t.2 k) (c1 : ¬ (0 < k ∧ 2 < lnT h t.2 (k - 1))) (c2 : ¬ (k < t.1.length ∧ 2 < lnT h t.2 (k + 1))) (c3 : 0 < k) : mendT h k t = joi h (k - 1) t := (if_neg c).trans ((if_neg c1).trans ((if_neg c2).trans (if_pos c3)))
theorem mendT_K {h k : Nat} {t : Tr α (h + 1)} (c : ¬ 2 ≤ lnT h t.2 k) (c1 : ¬ (0 < k ∧ 2 < lnT h t.2 (k - 1))) (c2 : ¬ (k < t.1.length ∧ 2 < lnT h t.2 (k + 1))) (c3 : ¬ 0 < k) : mendT h k t = joi h k t := (if_neg c).trans ((if_neg c1).trans ((if_neg c2).trans (if_neg c3)))
theorem dl_in : ∀ {h : Nat} {l r : Tr α h} {x y : α}, fil h 1 4 l → (kyT h l).getLast? = some y → inT h (dlT h l) ++ y :: inT h (coT x h l r) = inT h l ++ x :: inT h r
  | 0, l, r, x, y, _, hy => by
    have hy' : List.getLast? l = some y := hy
    have this : ∀ (a b : List α), a = List.dropLast a ++ [y] → List.dropLast a ++ y :: (x :: b) = a ++ x :: b := by
      intro a b h
      conv => rhs; rw [h]
      simp
    exact this l r (last_split hy')
  | h + 1, l, r, x, y, hf, hy => by
    obtain ⟨f1, f2, f3, f4⟩ := hf
    have hy' : l.1.getLast? = some y := hy
    obtain ⟨z, hz⟩ : ∃ z, l.2.getLast? = some z := by
      cases hh : l.2.getLast? with
      | none => rw [List.getLast?_eq_none_iff] at hh; rw [hh] at f3; simp at f3
      | some z => exact ⟨z, rfl⟩
    show itr l.1.dropLast (l.2.dropLast.map (inT h)) ++ y :: itr (x :: r.1) ((l.2.getLast?.toList ++ r.2).map (inT h)) = itr l.1 (l.2.map (inT h)) ++ x :: itr r.1 (r.2.map (inT h))
    rw [hz]
    have e1 : itr l.1 (l.2.map (inT h)) = itr l.1.dropLast (l.2.dropLast.map (inT h)) ++ y :: inT h z := by
      conv => lhs; rw [last_split hy', last_split hz]
      rw [List.map_append, itr_join (by simp; omega)]
      rfl
    rw [e1]
    show _ ++ y :: (inT h z ++ x :: itr r.1 (r.2.map (inT h))) = _
    simp
theorem sn_in : ∀ {h : Nat} {l r : Tr α h} {x y : α}, (kyT h l).length + 1 = (kyT h l).length + 1 → fil h 0 5 l → fil h 1 4 r → (kyT h r).head? = some y → inT h (snT x h l r) ++ y :: inT h (tlT h r) = inT h l ++ x :: inT h r
  | 0, l, r, x, y, _, _, _, hy => by
    have hy' : List.head? r = some y := hy
    have e : (r : List α) = y :: List.tail r := head_split hy'
    have : ∀ (a b : List α), b = y :: List.tail b → (a ++ [x]) ++ y :: List.tail b = a ++ x :: b := by
      intro a b h
      conv => rhs; rw [h]
      simp
    exact this l r e
  | h + 1, l, r, x, y, _, hl, hf, hy => by
    obtain ⟨f1, f2, f3, f4⟩ := hf
    have hy' : r.1.head? = some y := hy
    obtain ⟨z, hz⟩ : ∃ z, r.2.head? = some z := by
      cases hh : r.2.head? with
      | none => rw [List.head?_eq_none_iff] at hh; rw [hh] at f3; simp at f3
      | some z => exact ⟨z, rfl⟩
    show itr (l.1 ++ [x]) ((l.2 ++ r.2.head?.toList).map (inT h)) ++ y :: itr r.1.tail (r.2.tail.map (inT h)) = itr l.1 (l.2.map (inT h)) ++ x :: itr r.1 (r.2.map (inT h))
    rw [hz]
    have e1 : itr r.1 (r.2.map (inT h)) = inT h z ++ y :: itr r.1.tail (r.2.tail.map (inT h)) := by
      conv => lhs; rw [head_split hy', head_split hz]
      rfl
    rw [e1, List.map_append, itr_join (by simp; exact hl.2.2.1)]
    show (_ ++ x :: inT h z) ++ _ = _
    simp
theorem jo_in : ∀ {h : Nat} {l r : Tr α h} {x : α}, fil h 0 5 l → inT h (joT x h l r) = inT h l ++ x :: inT h r
  | 0, l, r, x, _ => rfl
  | h + 1, l, r, x, hl => by
    show itr (l.1 ++ x :: r.1) ((l.2 ++ r.2).map (inT h)) = _
    rw [List.map_append, itr_join (by simp; exact hl.2.2.1)]
    rfl
theorem dl_fil : ∀ {h : Nat} {l : Tr α h}, fil h 3 4 l → fil h 2 4 (dlT h l)
  | 0, l, hf => by
    have : ∀ a : List α, 3 ≤ a.length ∧ a.length ≤ 4 → 2 ≤ a.dropLast.length ∧ a.dropLast.length ≤ 4 := by
      intro a h; rw [List.length_dropLast]; omega
    exact this l hf
  | h + 1, l, hf => by
    obtain ⟨f1, f2, f3, f4⟩ := hf
    show 2 ≤ l.1.dropLast.length ∧ l.1.dropLast.length ≤ 4 ∧ l.2.dropLast.length = l.1.dropLast.length + 1 ∧ ∀ u ∈ l.2.dropLast, fil h 2 4 u
    rw [List.length_dropLast, List.length_dropLast]
    exact ⟨by omega, by omega, by omega, fun u hu => f4 u (List.dropLast_subset _ hu)⟩
theorem tl_fil : ∀ {h : Nat} {l : Tr α h}, fil h 3 4 l → fil h 2 4 (tlT h l)
  | 0, l, hf => by
    have : ∀ a : List α, 3 ≤ a.length ∧ a.length ≤ 4 → 2 ≤ a.tail.length ∧ a.tail.length ≤ 4 := by
      intro a h; rw [List.length_tail]; omega
    exact this l hf
  | h + 1, l, hf => by
    obtain ⟨f1, f2, f3, f4⟩ := hf
    show 2 ≤ l.1.tail.length ∧ l.1.tail.length ≤ 4 ∧ l.2.tail.length = l.1.tail.length + 1 ∧ ∀ u ∈ l.2.tail, fil h 2 4 u
    rw [List.length_tail, List.length_tail]
    exact ⟨by omega, by omega, by omega, fun u hu => f4 u (List.mem_of_mem_tail hu)⟩
theorem co_fil {x : α} : ∀ {h : Nat} {l r : Tr α h}, fil h 3 4 l → fil h 1 1 r → fil h 2 4 (coT x h l r)
  | 0, l, r, _, hr => by
    have : ∀ a : List α, 1 ≤ a.length ∧ a.length ≤ 1 → 2 ≤ (x :: a).length ∧ (x :: a).length ≤ 4 := by
      intro a h; rw [List.length_cons]; omega
    exact this r hr
  | h + 1, l, r, hl, hr => by
    obtain ⟨f1, f2, f3, f4⟩ := hr
    obtain ⟨z, hz⟩ : ∃ z, l.2.getLast? = some z := by
      cases hh : l.2.getLast? with
      | none => rw [List.getLast?_eq_none_iff] at hh; have := hl.2.2.1; rw [hh] at this; simp at this
      | some z => exact ⟨z, rfl⟩
    show 2 ≤ (x :: r.1).length ∧ (x :: r.1).length ≤ 4 ∧ (l.2.getLast?.toList ++ r.2).length = (x :: r.1).length + 1 ∧ ∀ u ∈ l.2.getLast?.toList ++ r.2, fil h 2 4 u
    rw [hz]
    refine ⟨by simp; omega, by simp; omega, by simp; omega, fun u hu => ?_⟩
    rcases List.mem_append.mp hu with h | h
    · have : u = z := by simpa using h
      subst this
      exact hl.2.2.2 u (List.mem_of_getLast? hz)
    · exact f4 u h
theorem sn_fil {x : α} : ∀ {h : Nat} {l r : Tr α h}, fil h 1 1 l → fil h 3 4 r → fil h 2 4 (snT x h l r)
  | 0, l, r, hl, _ => by
    have : ∀ a : List α, 1 ≤ a.length ∧ a.length ≤ 1 → 2 ≤ (a ++ [x]).length ∧ (a ++ [x]).length ≤ 4 := by
      intro a h; rw [List.length_append, List.length_singleton]; omega
    exact this l hl
  | h + 1, l, r, hl, hr => by
    obtain ⟨f1, f2, f3, f4⟩ := hl
    obtain ⟨z, hz⟩ : ∃ z, r.2.head? = some z := by
      cases hh : r.2.head? with
      | none => rw [List.head?_eq_none_iff] at hh; have := hr.2.2.1; rw [hh] at this; simp at this
      | some z => exact ⟨z, rfl⟩
    show 2 ≤ (l.1 ++ [x]).length ∧ (l.1 ++ [x]).length ≤ 4 ∧ (l.2 ++ r.2.head?.toList).length = (l.1 ++ [x]).length + 1 ∧ ∀ u ∈ l.2 ++ r.2.head?.toList, fil h 2 4 u
    rw [hz]
    refine ⟨by simp; omega, by simp; omega, by simp; omega, fun u hu => ?_⟩
    rcases List.mem_append.mp hu with h | h
    · exact f4 u h
    · have : u = z := by simpa using h
      subst this
      exact hr.2.2.2 u (List.mem_of_head? hz)
theorem jo_fil {x : α} : ∀ {h : Nat} {l r : Tr α h}, fil h 1 2 l → fil h 1 2 r → (kyT h l).length + (kyT h r).length = 3 → fil h 2 4 (joT x h l r)
  | 0, l, r, hl, hr, h3 => by
    have : ∀ a b : List α, a.length + b.length = 3 → 2 ≤ (a ++ x :: b).length ∧ (a ++ x :: b).length ≤ 4 := by
      intro a b h; rw [List.length_append, List.length_cons]; omega
    exact this l r h3
  | h + 1, l, r, hl, hr, h3 => by
    have h3' : l.1.length + r.1.length = 3 := h3
    show 2 ≤ (l.1 ++ x :: r.1).length ∧ (l.1 ++ x :: r.1).length ≤ 4 ∧ (l.2 ++ r.2).length = (l.1 ++ x :: r.1).length + 1 ∧ ∀ u ∈ l.2 ++ r.2, fil h 2 4 u
    have g1 := hl.2.2.1
    have g2 := hr.2.2.1
    refine ⟨by simp; omega, by simp; omega, by simp; omega, fun u hu => ?_⟩
    rcases List.mem_append.mp hu with h | h
    · exact hl.2.2.2 u h
    · exact hr.2.2.2 u h
theorem inT_pair {h b : Nat} {K : List α} {D : List (Tr α h)} {l r : Tr α h} {x : α} (hl : D.length = K.length + 1) (hx : K[b]? = some x) (h1 : D[b]? = some l) (h2 : D[b + 1]? = some r) : inT (h + 1) ((K, D) : Tr α (h + 1)) = pre (K.take b) ((D.take b).map (inT h)) ++ ((inT h l ++ x :: inT h r) ++ pos (K.drop (b + 1)) ((D.drop (b + 2)).map (inT h))) := by
  have kl := (List.getElem?_eq_some_iff.mp hx).1
  conv => lhs; rw [sp1 hx, sp2 h1 h2]
  show inT (h + 1) ((K.take b ++ (x :: K.drop (b + 1)), D.take b ++ (l :: (r :: D.drop (b + 2)))) : Tr α (h + 1)) = _
  rw [inT_mk (by simp; omega) (by simp; omega), List.map_cons]
  show _ ++ (_ ++ (x :: (inT h r ++ _))) = _
  simp
theorem inT_two {h : Nat} {K1 K2 : List α} {D1 D2 : List (Tr α h)} {l r : Tr α h} {y : α} (e1 : K1.length = D1.length) (e2 : K2.length = D2.length) : inT (h + 1) ((K1 ++ y :: K2, D1 ++ ([l, r] ++ D2)) : Tr α (h + 1)) = pre K1 (D1.map (inT h)) ++ ((inT h l ++ y :: inT h r) ++ pos K2 (D2.map (inT h))) := by
  show inT (h + 1) ((K1 ++ (y :: K2), D1 ++ (l :: (r :: D2))) : Tr α (h + 1)) = _
  rw [inT_mk e1 (by simp; exact e2), List.map_cons]
  show _ ++ (_ ++ (y :: (inT h r ++ _))) = _
  simp
theorem rotL_of {h b : Nat} {t : Tr α (h + 1)} {x y : α} {l r : Tr α h} (hx : t.1[b]? = some x) (h1 : t.2[b]? = some l) (h2 : t.2[b + 1]? = some r) (hy : (kyT h l).getLast? = some y) : rotL h b t = (t.1.take b ++ y :: t.1.drop (b + 1), t.2.take b ++ ([dlT h l, coT x h l r] ++ t.2.drop (b + 2))) := by
  unfold rotL
  rw [hx, h1, h2]
  simp only [hy]
  rfl
theorem rotR_of {h b : Nat} {t : Tr α (h + 1)} {x y : α} {l r : Tr α h} (hx : t.1[b]? = some x) (h1 : t.2[b]? = some l) (h2 : t.2[b + 1]? = some r) (hy : (kyT h r).head? = some y) : rotR h b t = (t.1.take b ++ y :: t.1.drop (b + 1), t.2.take b ++ ([snT x h l r, tlT h r] ++ t.2.drop (b + 2))) := by
  unfold rotR
  rw [hx, h1, h2]
  simp only [hy]
  rfl
theorem joi_of {h b : Nat} {t : Tr α (h + 1)} {x : α} {l r : Tr α h} (hx : t.1[b]? = some x) (h1 : t.2[b]? = some l) (h2 : t.2[b + 1]? = some r) : joi h b t = (t.1.take b ++ t.1.drop (b + 1), t.2.take b ++ ([joT x h l r] ++ t.2.drop (b + 2))) := by
  unfold joi
  rw [hx, h1, h2]
theorem lnT_of {h j : Nat} {D : List (Tr α h)} {u : Tr α h} (hu : D[j]? = some u) : lnT h D j = (kyT h u).length := by
  unfold lnT; rw [hu]
/-- two neighbours become two others -/
theorem two_ok {h b a k : Nat} {K : List α} {D : List (Tr α h)} {l r l' r' : Tr α h} {x y : α} (hl : D.length = K.length + 1) (ha : a ≤ K.length) (h4 : K.length ≤ 4) (ho : ∀ j u, j ≠ k → D[j]? = some u → fil h 2 4 u) (hk : k = b ∨ k = b + 1) (hx : K[b]? = some x) (h1 : D[b]? = some l) (h2 : D[b + 1]? = some r) (hi : inT h l' ++ y :: inT h r' = inT h l ++ x :: inT h r) (f1 : fil h 2 4 l') (f2 : fil h 2 4 r') :
    fil (h + 1) a 4 ((K.take b ++ y :: K.drop (b + 1), D.take b ++ ([l', r'] ++ D.drop (b + 2))) : Tr α (h + 1)) ∧ inT (h + 1) ((K.take b ++ y :: K.drop (b + 1), D.take b ++ ([l', r'] ++ D.drop (b + 2))) : Tr α (h + 1)) = inT (h + 1) ((K, D) : Tr α (h + 1)) := by
  have kl := (List.getElem?_eq_some_iff.mp hx).1
  constructor
  · show a ≤ (K.take b ++ y :: K.drop (b + 1)).length ∧ (K.take b ++ y :: K.drop (b + 1)).length ≤ 4 ∧ (D.take b ++ ([l', r'] ++ D.drop (b + 2))).length = (K.take b ++ y :: K.drop (b + 1)).length + 1 ∧ ∀ u ∈ D.take b ++ ([l', r'] ++ D.drop (b + 2)), fil h 2 4 u
    refine ⟨by simp; omega, by simp; omega, by simp; omega, fun u hu => ?_⟩
    rcases List.mem_append.mp hu with c | c
    · obtain ⟨j, hj⟩ := List.getElem?_of_mem c
      have jl := (List.getElem?_eq_some_iff.mp hj).1
      rw [List.length_take] at jl
      rw [List.getElem?_take_of_lt (by omega)] at hj
      exact ho j u (by omega) hj
    · rcases List.mem_append.mp c with c | c
      · rcases List.mem_cons.mp c with c | c
        · subst c; exact f1
        · have := List.mem_singleton.mp c
          subst this; exact f2
      · obtain ⟨j, hj⟩ := List.getElem?_of_mem c
        rw [List.getElem?_drop] at hj
        exact ho _ u (by omega) hj
  · rw [inT_two (by simp; omega) (by simp; omega), inT_pair hl hx h1 h2, hi]
theorem one_ok {h b a k : Nat} {K : List α} {D : List (Tr α h)} {l r m : Tr α h} {x : α} (hl : D.length = K.length + 1) (ha : a ≤ K.length) (h4 : K.length ≤ 4) (ho : ∀ j u, j ≠ k → D[j]? = some u → fil h 2 4 u) (hk : k = b ∨ k = b + 1) (hx : K[b]? = some x) (h1 : D[b]? = some l) (h2 : D[b + 1]? = some r) (hi : inT h m = inT h l ++ x :: inT h r) (f1 : fil h 2 4 m) :
    fil (h + 1) (a - 1) 4 ((K.take b ++ K.drop (b + 1), D.take b ++ ([m] ++ D.drop (b + 2))) : Tr α (h + 1)) ∧ inT (h + 1) ((K.take b ++ K.drop (b + 1), D.take b ++ ([m] ++ D.drop (b + 2))) : Tr α (h + 1)) = inT (h + 1) ((K, D) : Tr α (h + 1)) := by
  have kl := (List.getElem?_eq_some_iff.mp hx).1
  constructor
  · show a - 1 ≤ (K.take b ++ K.drop (b + 1)).length ∧ (K.take b ++ K.drop (b + 1)).length ≤ 4 ∧ (D.take b ++ ([m] ++ D.drop (b + 2))).length = (K.take b ++ K.drop (b + 1)).length + 1 ∧ ∀ u ∈ D.take b ++ ([m] ++ D.drop (b + 2)), fil h 2 4 u
    refine ⟨by simp; omega, by simp; omega, by simp; omega, fun u hu => ?_⟩
    rcases List.mem_append.mp hu with c | c
    · obtain ⟨j, hj⟩ := List.getElem?_of_mem c
      have jl := (List.getElem?_eq_some_iff.mp hj).1
      rw [List.length_take] at jl
      rw [List.getElem?_take_of_lt (by omega)] at hj
      exact ho j u (by omega) hj
    · rcases List.mem_append.mp c with c | c
      · have := List.mem_singleton.mp c
        subst this; exact f1
      · obtain ⟨j, hj⟩ := List.getElem?_of_mem c
        rw [List.getElem?_drop] at hj
        exact ho _ u (by omega) hj
  · show inT (h + 1) ((K.take b ++ K.drop (b + 1), D.take b ++ m :: D.drop (b + 2)) : Tr α (h + 1)) = _
    rw [inT_mk (by simp; omega) (by simp; omega), inT_pair hl hx h1 h2, hi]
set_option maxHeartbeats 1000000 in
theorem mend_ok {h k a : Nat} {K : List α} {D : List (Tr α h)} {c : Tr α h} (hl : D.length = K.length + 1) (ha : a ≤ K.length) (h1 : 1 ≤ K.length) (h4 : K.length ≤ 4) (ho : ∀ j u, j ≠ k → D[j]? = some u → fil h 2 4 u) (hc : D[k]? = some c) (fc : fil h 1 4 c) : fil (h + 1) (a - 1) 4 (mendT h k ((K, D) : Tr α (h + 1))) ∧ inT (h + 1) (mendT h k ((K, D) : Tr α (h + 1))) = inT (h + 1) ((K, D) : Tr α (h + 1)) := by
  have kl := (List.getElem?_eq_some_iff.mp hc).1
  have kc1 := fil_ky fc
  have lk := lnT_of hc
  by_cases c2 : 2 ≤ (kyT h c).length
  · rw [mendT_0 (t := ((K, D) : Tr α (h + 1))) (by show 2 ≤ lnT h D k; rw [lk]; exact c2)]
    refine ⟨⟨by show a - 1 ≤ K.length; omega, h4, hl, fun u hu => ?_⟩, rfl⟩
    obtain ⟨j, hj⟩ := List.getElem?_of_mem hu
    by_cases e : j = k
    · subst e
      rw [hc] at hj
      cases hj
      exact fil_len fc c2 kc1.2
    · exact ho j u e hj
  · have n2 : ¬ 2 ≤ lnT h D k := by rw [lk]; exact c2
    have fc1 : fil h 1 1 c := fil_len fc kc1.1 (by omega)
    by_cases cL : 0 < k ∧ 2 < lnT h D (k - 1)
    · rw [mendT_L (t := ((K, D) : Tr α (h + 1))) n2 cL]
      obtain ⟨b, rfl⟩ : ∃ b, k = b + 1 := ⟨k - 1, by omega⟩
      rw [show b + 1 - 1 = b by omega] at cL ⊢
      obtain ⟨l, hl1⟩ : ∃ l, D[b]? = some l := ⟨_, List.getElem?_eq_getElem (by omega)⟩
      obtain ⟨x, hx⟩ : ∃ x, K[b]? = some x := ⟨_, List.getElem?_eq_getElem (by omega)⟩
      have fl := ho b l (by omega) hl1
      have cl := cL.2
      rw [lnT_of hl1] at cl
      have fl3 : fil h 3 4 l := fil_len fl (by omega) (fil_ky fl).2
      obtain ⟨y, hy⟩ : ∃ y, (kyT h l).getLast? = some y := by
        cases hh : (kyT h l).getLast? with
        | none => rw [List.getLast?_eq_none_iff] at hh; rw [hh] at cl; simp at cl
        | some y => exact ⟨y, rfl⟩
      have := two_ok (a := a) (k := b + 1) hl ha h4 ho (Or.inr rfl) hx hl1 hc (dl_in (r := c) (x := x) (fil_mono fl3 (by omega) (by omega)) hy) (dl_fil fl3) (co_fil fl3 fc1)
      rw [rotL_of (t := ((K, D) : Tr α (h + 1))) hx hl1 hc hy]
      exact ⟨fil_mono this.1 (by omega) (Nat.le_refl _), this.2⟩
    · by_cases cR : k < K.length ∧ 2 < lnT h D (k + 1)
      · rw [mendT_R (t := ((K, D) : Tr α (h + 1))) n2 cL cR]
        obtain ⟨r, hr1⟩ : ∃ r, D[k + 1]? = some r := ⟨_, List.getElem?_eq_getElem (by omega)⟩
        obtain ⟨x, hx⟩ : ∃ x, K[k]? = some x := ⟨_, List.getElem?_eq_getElem (by omega)⟩
        have fr := ho (k + 1) r (by omega) hr1
        have cr := cR.2
        rw [lnT_of hr1] at cr
        have fr3 : fil h 3 4 r := fil_len fr (by omega) (fil_ky fr).2
        obtain ⟨y, hy⟩ : ∃ y, (kyT h r).head? = some y := by
          cases hh : (kyT h r).head? with
          | none => rw [List.head?_eq_none_iff] at hh; rw [hh] at cr; simp at cr
          | some y => exact ⟨y, rfl⟩
        have := two_ok (a := a) (k := k) hl ha h4 ho (Or.inl rfl) hx hc hr1 (sn_in (l := c) (x := x) rfl (fil_mono fc1 (by omega) (by omega)) (fil_mono fr3 (by omega) (by omega)) hy) (sn_fil fc1 fr3) (tl_fil fr3)
        rw [rotR_of (t := ((K, D) : Tr α (h + 1))) hx hc hr1 hy]
        exact ⟨fil_mono this.1 (by omega) (Nat.le_refl _), this.2⟩
      · by_cases c0 : 0 < k
        · rw [mendT_J (t := ((K, D) : Tr α (h + 1))) n2 cL cR c0]
          obtain ⟨b, rfl⟩ : ∃ b, k = b + 1 := ⟨k - 1, by omega⟩
          rw [show b + 1 - 1 = b by omega] at cL ⊢
          obtain ⟨l, hl1⟩ : ∃ l, D[b]? = some l := ⟨_, List.getElem?_eq_getElem (by omega)⟩
          obtain ⟨x, hx⟩ : ∃ x, K[b]? = some x := ⟨_, List.getElem?_eq_getElem (by omega)⟩
          have fl := ho b l (by omega) hl1
          rw [lnT_of hl1] at cL
          have l2 := (fil_ky fl).1
          have fl2 : fil h 1 2 l := fil_len fl (by omega) (by omega)
          rw [joi_of (t := ((K, D) : Tr α (h + 1))) hx hl1 hc]
          exact one_ok (k := b + 1) hl ha h4 ho (Or.inr rfl) hx hl1 hc (jo_in (fil_mono fl2 (by omega) (by omega))) (jo_fil fl2 (fil_mono fc1 (by omega) (by omega)) (by have := fil_ky fc1; omega))
        · rw [mendT_K (t := ((K, D) : Tr α (h + 1))) n2 cL cR c0]
          obtain ⟨r, hr1⟩ : ∃ r, D[k + 1]? = some r := ⟨_, List.getElem?_eq_getElem (by omega)⟩
          obtain ⟨x, hx⟩ : ∃ x, K[k]? = some x := ⟨_, List.getElem?_eq_getElem (by omega)⟩
          have fr := ho (k + 1) r (by omega) hr1
          rw [lnT_of hr1] at cR
          have r2 := (fil_ky fr).1
          have fr2 : fil h 1 2 r := fil_len fr (by omega) (by omega)
          rw [joi_of (t := ((K, D) : Tr α (h + 1))) hx hc hr1]
          exact one_ok (k := k) hl ha h4 ho (Or.inl rfl) hx hc hr1 (jo_in (fil_mono fc1 (by omega) (by omega))) (jo_fil (fil_mono fc1 (by omega) (by omega)) fr2 (by have := fil_ky fc1; omega))
end ORDD
