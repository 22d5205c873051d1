/-! whole trees: an entry comes, an entry goes -/
section RM
variable {α : Type}
theorem remL_last (l : List α) {k : Nat} {x : α} (hk : k + 1 = l.length) (hx : l.getLast? = some x) : l = remL l k ++ [x] := by
  unfold remL
  rw [List.drop_of_length_le (l := l) (by omega), List.append_nil]
  have e := last_split hx
  have : l.take k = l.dropLast := by rw [List.dropLast_eq_take]; congr 1; omega
  rw [this]
  exact e
theorem last_ex (l : List α) (h : 1 ≤ l.length) : ∃ x, l.getLast? = some x := by
  cases hh : l.getLast? with
  | none => rw [List.getLast?_eq_none_iff] at hh; rw [hh] at h; simp at h
  | some x => exact ⟨x, rfl⟩
theorem rm_ok {s : Nat → Nat} : ∀ {h i a : Nat} {u : Tr α h}, fil h a 4 u → 1 ≤ a → (∀ j, j ≤ h → s (i + j) = rmT h u j) → ∃ x, mxT h u = some x ∧ fil h (a - 1) 4 (delP s h i u) ∧ inT h u = inT h (delP s h i u) ++ [x]
  | 0, i, a, u, hf, ha, hs => by
    have hf' : a ≤ List.length u ∧ List.length u ≤ 4 := hf
    have hs0 : s i = List.length u - 1 := hs 0 (Nat.le_refl _)
    obtain ⟨x, hx⟩ := last_ex u (by omega)
    refine ⟨x, hx, ?_, ?_⟩
    · show a - 1 ≤ (remL u (s i)).length ∧ (remL u (s i)).length ≤ 4
      rw [remL_len u (by omega)]
      omega
    · exact remL_last u (by omega) hx
  | h + 1, i, a, u, hf, ha, hs => by
    obtain ⟨f1, f2, f3, f4⟩ := hf
    have hs0 : s i = u.1.length := hs 0 (by omega)
    obtain ⟨v, hv⟩ : ∃ v, u.2[u.1.length]? = some v := ⟨_, List.getElem?_eq_getElem (by omega)⟩
    have hv' : u.2[s i]? = some v := by rw [hs0]; exact hv
    have fv := f4 v (List.mem_of_getElem? hv)
    obtain ⟨x, hx, g1, g2⟩ := rm_ok (s := s) (i := i + 1) fv (by omega) (fun j hj => by
      rw [show i + 1 + j = i + (j + 1) by omega, hs (j + 1) (by omega)]
      show (match u.2[u.1.length]? with | some u => rmT h u j | none => 0) = _
      rw [hv])
    have fl : (u.2.set (s i) (delP s h (i + 1) v)).length = u.1.length + 1 := by rw [List.length_set]; exact f3
    have m := mend_ok (k := s i) (a := a) (K := u.1) (D := u.2.set (s i) (delP s h (i + 1) v)) (c := delP s h (i + 1) v) fl f1 (by omega) f2 (fun j w hj hw => by
      rw [List.getElem?_set, if_neg (Ne.symm hj)] at hw
      exact f4 w (List.mem_of_getElem? hw)) (by rw [List.getElem?_set_self (by omega)]) g1
    refine ⟨x, ?_, ?_, ?_⟩
    · show (match u.2[u.1.length]? with | some u => mxT h u | none => none) = _
      rw [hv]; exact hx
    · rw [delP_s hv']; exact m.1
    · rw [delP_s hv', m.2, inT_at f3 hv']
      have e0 : inT (h + 1) u = pre (u.1.take (s i)) ((u.2.take (s i)).map (inT h)) ++ (inT h v ++ pos (u.1.drop (s i)) ((u.2.drop (s i + 1)).map (inT h))) := inT_at0 f3 hv'
      rw [e0, List.drop_of_length_le (l := u.1) (by omega)]
      show _ ++ (_ ++ []) = (_ ++ (_ ++ [])) ++ [x]
      rw [g2]
      simp
end RM
theorem kc_cut {e : E} {l : List E} (hs : l.Pairwise elt) : (∀ x ∈ l.take (kc e l), elt x e) ∧ (hit e l = false → ∀ x ∈ l.drop (kc e l), elt e x) := by
  constructor
  · intro x hx
    obtain ⟨j, hj⟩ := List.getElem?_of_mem hx
    have jl := (List.getElem?_eq_some_iff.mp hj).1
    rw [List.length_take] at jl
    rw [List.getElem?_take_of_lt (by omega)] at hj
    exact (ecmp_pos e x).mp (kc_lo e l j x (by omega) hj)
  · intro hh x hx
    cases hd : l.drop (kc e l) with
    | nil => rw [hd] at hx; cases hx
    | cons y ys =>
      have hy : l[kc e l]? = some y := by
        have : (l.drop (kc e l))[0]? = some y := by rw [hd]; rfl
        rw [List.getElem?_drop] at this
        exact this
      have n1 := kc_at e l y hy
      have ey : elt e y := by
        rcases elt_tri e y with h | h | h
        · exact h
        · subst h
          rw [hit_iff.mpr hy] at hh
          cases hh
        · exact absurd ((ecmp_pos e y).mpr h) n1
      have ps : (y :: ys).Pairwise elt := by rw [← hd]; exact hs.sublist (List.drop_sublist _ _)
      rw [hd] at hx
      rcases List.mem_cons.mp hx with h | h
      · subst h; exact ey
      · exact elt_trans ey ((List.pairwise_cons.mp ps).1 x h)
theorem pre_last {α : Type} : ∀ {K : List α} {D : List (List α)} {y : α}, K.length = D.length → K.getLast? = some y → ∃ P, pre K D = P ++ [y]
  | [], _, _, _, h => by cases h
  | [k], [d], y, _, h => by
    simp at h
    subst h
    exact ⟨d, rfl⟩
  | k :: k2 :: ks, d :: d2 :: ds, y, hl, h => by
    have h' : (k2 :: ks).getLast? = some y := by simpa [List.getLast?_cons_cons] using h
    obtain ⟨P, hP⟩ := pre_last (K := k2 :: ks) (D := d2 :: ds) (by simpa using hl) h'
    refine ⟨d ++ k :: P, ?_⟩
    show d ++ k :: pre (k2 :: ks) (d2 :: ds) = _
    rw [hP]
    simp
  | [k], [], _, hl, _ => by simp at hl
  | [k], d :: d2 :: ds, _, hl, _ => by simp at hl
  | k :: k2 :: ks, [], _, hl, _ => by simp at hl
  | k :: k2 :: ks, [d], _, hl, _ => by simp at hl
theorem pre_mem {α : Type} : ∀ {K : List α} {D : List (List α)} {x : α}, K.length = D.length → x ∈ K → x ∈ pre K D
  | [], _, _, _, h => by cases h
  | k :: ks, [], _, hl, _ => by simp at hl
  | k :: ks, d :: ds, x, hl, h => by
    show x ∈ d ++ k :: pre ks ds
    rcases List.mem_cons.mp h with h | h
    · subst h; simp
    · exact List.mem_append_right _ (List.mem_cons_of_mem _ (pre_mem (by simpa using hl) h))
theorem pos_mem {α : Type} : ∀ {K : List α} {D : List (List α)} {x : α}, K.length = D.length → x ∈ K → x ∈ pos K D
  | [], _, _, _, h => by cases h
  | k :: ks, [], _, hl, _ => by simp at hl
  | k :: ks, d :: ds, x, hl, h => by
    show x ∈ k :: (d ++ pos ks ds)
    rcases List.mem_cons.mp h with h | h
    · subst h; simp
    · exact List.mem_cons_of_mem _ (List.mem_append_right _ (pos_mem (by simpa using hl) h))
theorem inT_keys {α : Type} {h k : Nat} {t : Tr α (h + 1)} {x : α} (hl : t.2.length = t.1.length + 1) (hx : t.1[k]? = some x) : x ∈ inT (h + 1) t := by
  have kl := (List.getElem?_eq_some_iff.mp hx).1
  obtain ⟨u, hu⟩ : ∃ u, t.2[k]? = some u := ⟨_, List.getElem?_eq_getElem (by omega)⟩
  have e : inT (h + 1) t = _ := inT_at0 (K := t.1) (D := t.2) hl hu
  rw [e]
  refine List.mem_append_right _ (List.mem_append_right _ (pos_mem (by simp; omega) ?_))
  exact List.mem_of_getElem? (i := 0) (by rw [List.getElem?_drop]; exact hx)
theorem inT_kid {α : Type} {h k : Nat} {t : Tr α (h + 1)} {u : Tr α h} {x : α} (hl : t.2.length = t.1.length + 1) (hu : t.2[k]? = some u) (hx : x ∈ inT h u) : x ∈ inT (h + 1) t := by
  have e : inT (h + 1) t = _ := inT_at0 (K := t.1) (D := t.2) hl hu
  rw [e]
  exact List.mem_append_right _ (List.mem_append_left _ hx)
set_option maxHeartbeats 1000000 in
theorem lh_ok {e : E} {s : Nat → Nat} : ∀ {h i a b : Nat} {t : Tr E h}, fil h a b t → (inT h t).Pairwise elt → fnT e h t = false → (∀ j, j ≤ h → s (i + j) = slT e h t j) → pOK s h i t ∧ LH (fun x => elt x e) (fun x => elt e x) s h i t
  | 0, i, a, b, t, hf, hs, hn, hj => by
    have h0 : s i = kc e t := hj 0 (Nat.le_refl _)
    have := kc_cut (e := e) (l := t) hs
    refine ⟨?_, ?_, ?_⟩
    · show s i ≤ List.length t
      rw [h0]; exact kc_le e t
    · rw [h0]; exact this.1
    · rw [h0]; exact this.2 hn
  | h + 1, i, a, b, t, hf, hs, hn, hj => by
    obtain ⟨f1, f2, f3, f4⟩ := hf
    have h0 : s i = kc e t.1 := hj 0 (by omega)
    have kle := kc_le e t.1
    obtain ⟨u, hu⟩ : ∃ u, t.2[kc e t.1]? = some u := ⟨_, List.getElem?_eq_getElem (by omega)⟩
    have hu' : t.2[s i]? = some u := by rw [h0]; exact hu
    have hn2 : (hit e t.1 || match t.2[kc e t.1]? with | some u => fnT e h u | none => false) = false := hn
    rw [hu] at hn2
    have hn3 : hit e t.1 = false ∧ fnT e h u = false := by simpa using hn2
    have hin : inT (h + 1) t = pre (t.1.take (s i)) ((t.2.take (s i)).map (inT h)) ++ (inT h u ++ pos (t.1.drop (s i)) ((t.2.drop (s i + 1)).map (inT h))) := inT_at0 f3 hu'
    rw [hin] at hs
    have p1 := List.pairwise_append.mp hs
    have p2 := List.pairwise_append.mp p1.2.1
    obtain ⟨i1, i2⟩ := lh_ok (s := s) (i := i + 1) (f4 u (List.mem_of_getElem? hu)) p2.1 hn3.2 (fun j hj' => by
      rw [show i + 1 + j = i + (j + 1) by omega, hj (j + 1) (by omega)]
      show (match t.2[kc e t.1]? with | some u => slT e h u j | none => 0) = _
      rw [hu])
    refine ⟨⟨by rw [h0]; exact kle, fun v hv => ?_⟩, ?_, ?_, fun v hv => ?_⟩
    · rw [hu'] at hv; cases hv; exact i1
    · intro x hx
      cases hz : (t.1.take (s i)).getLast? with
      | none =>
        rw [List.getLast?_eq_none_iff] at hz
        rw [hz] at hx
        cases hx
      | some y =>
        obtain ⟨P, hP⟩ := pre_last (D := (t.2.take (s i)).map (inT h)) (by simp; omega) hz
        have hy : y ∈ t.1.take (s i) := List.mem_of_getLast? hz
        obtain ⟨j, hjy⟩ := List.getElem?_of_mem hy
        have jl := (List.getElem?_eq_some_iff.mp hjy).1
        rw [List.length_take] at jl
        rw [List.getElem?_take_of_lt (by omega)] at hjy
        have ye : elt y e := (ecmp_pos e y).mp (kc_lo e t.1 j y (by omega) hjy)
        have pp := p1.1
        rw [hP] at hx pp
        rcases List.mem_append.mp hx with h | h
        · exact elt_trans ((List.pairwise_append.mp pp).2.2 x h y (by simp)) ye
        · have := List.mem_singleton.mp h
          subst this; exact ye
    · intro x hx
      cases hd : t.1.drop (s i) with
      | nil => rw [hd] at hx; cases hx
      | cons y ys =>
        cases hd2 : (t.2.drop (s i + 1)).map (inT h) with
        | nil => rw [hd, hd2] at hx; cases hx
        | cons d ds =>
          have hy : t.1[kc e t.1]? = some y := by
            have : (t.1.drop (s i))[0]? = some y := by rw [hd]; rfl
            rw [List.getElem?_drop, h0] at this
            exact this
          have n1 := kc_at e t.1 y hy
          have ey : elt e y := by
            rcases elt_tri e y with h | h | h
            · exact h
            · subst h
              have := hn3.1
              rw [hit_iff.mpr hy] at this
              cases this
            · exact absurd ((ecmp_pos e y).mpr h) n1
          have pp := p2.2.1
          rw [hd, hd2] at hx pp
          have pp2 : (y :: (d ++ pos ys ds)).Pairwise elt := pp
          have hx2 : x ∈ y :: (d ++ pos ys ds) := hx
          rcases List.mem_cons.mp hx2 with h | h
          · subst h; exact ey
          · exact elt_trans ey ((List.pairwise_cons.mp pp2).1 x h)
    · rw [hu'] at hv; cases hv; exact i2
/-- the path of an entry that goes, with what takes its place -/
def r1T (e : E) (s : Nat → Nat) (h i : Nat) (t : Tr E h) : Tr E h := match gbT e h t with
  | some x => repP s (i + lvT e h t) x h i t
  | none => t
set_option maxHeartbeats 1000000 in
theorem del_ok {e : E} {s : Nat → Nat} : ∀ {h i a : Nat} {t : Tr E h}, fil h a 4 t → (0 < h → 1 ≤ a) → fnT e h t = true → (∀ j, j ≤ h → s (i + j) = dsT e h t j) → fil h (a - 1) 4 (delP s h i (r1T e s h i t)) ∧ ∃ A B, inT h t = A ++ e :: B ∧ inT h (delP s h i (r1T e s h i t)) = A ++ B
  | 0, i, a, t, hf, ha, hn, hj => by
    have h0 : s i = kc e t := hj 0 (Nat.le_refl _)
    have hk := (hit_iff (e := e) (ks := t)).mp hn
    have kl := (List.getElem?_eq_some_iff.mp hk).1
    have hf' : a ≤ List.length t ∧ List.length t ≤ 4 := hf
    have r1 : r1T e s 0 i t = t := rfl
    rw [r1]
    refine ⟨?_, List.take (kc e t) t, List.drop (kc e t + 1) t, sp1 hk, ?_⟩
    · show a - 1 ≤ (remL t (s i)).length ∧ (remL t (s i)).length ≤ 4
      rw [h0, remL_len t kl]
      omega
    · show remL t (s i) = _
      rw [h0]; rfl
  | h + 1, i, a, t, hf, ha, hn, hj => by
    obtain ⟨f1, f2, f3, f4⟩ := hf
    have a1 := ha (by omega)
    have h0 : s i = kc e t.1 := hj 0 (by omega)
    have kle := kc_le e t.1
    obtain ⟨u, hu⟩ : ∃ u, t.2[kc e t.1]? = some u := ⟨_, List.getElem?_eq_getElem (by omega)⟩
    have hu' : t.2[s i]? = some u := by rw [h0]; exact hu
    have um := List.mem_of_getElem? hu
    have hn2 : (hit e t.1 || match t.2[kc e t.1]? with | some u => fnT e h u | none => false) = true := hn
    rw [hu] at hn2
    have gb : gbT e (h + 1) t = if hit e t.1 then mxT h u else gbT e h u := by
      show (match t.2[kc e t.1]? with | some u => if hit e t.1 then mxT h u else gbT e h u | none => none) = _
      rw [hu]
    have lv : lvT e (h + 1) t = if hit e t.1 then 0 else lvT e h u + 1 := by
      show (if hit e t.1 then 0 else match t.2[kc e t.1]? with | some u => lvT e h u + 1 | none => 0) = _
      rw [hu]
    have ds : ∀ j, j ≤ h → s (i + 1 + j) = if hit e t.1 then rmT h u j else dsT e h u j := by
      intro j hj'
      rw [show i + 1 + j = i + (j + 1) by omega, hj (j + 1) (by omega)]
      show (match t.2[kc e t.1]? with | some u => if hit e t.1 then rmT h u j else dsT e h u j | none => 0) = _
      rw [hu]
    have fin : ∀ (K : List E) (v : Tr E h), K.length = t.1.length → fil h 1 4 v → fil (h + 1) (a - 1) 4 (mendT h (s i) ((K, t.2.set (s i) v) : Tr E (h + 1))) ∧ inT (h + 1) (mendT h (s i) ((K, t.2.set (s i) v) : Tr E (h + 1))) = pre (K.take (s i)) ((t.2.take (s i)).map (inT h)) ++ (inT h v ++ pos (K.drop (s i)) ((t.2.drop (s i + 1)).map (inT h))) := by
      intro K v hK hv
      have m := mend_ok (k := s i) (a := a) (K := K) (D := t.2.set (s i) v) (c := v) (by rw [List.length_set, hK]; exact f3) (by omega) (by omega) (by omega) (fun j w hj hw => by
        rw [List.getElem?_set, if_neg (Ne.symm hj)] at hw
        exact f4 w (List.mem_of_getElem? hw)) (by rw [List.getElem?_set_self (by omega)]) hv
      exact ⟨m.1, m.2.trans (inT_at (by omega) hu')⟩
    have hin : inT (h + 1) t = pre (t.1.take (s i)) ((t.2.take (s i)).map (inT h)) ++ (inT h u ++ pos (t.1.drop (s i)) ((t.2.drop (s i + 1)).map (inT h))) := inT_at0 f3 hu'
    by_cases hh : hit e t.1 = true
    · have hk : t.1[s i]? = some e := by rw [h0]; exact hit_iff.mp hh
      have kl := (List.getElem?_eq_some_iff.mp hk).1
      obtain ⟨x, hx, g1, g2⟩ := rm_ok (s := s) (i := i + 1) (f4 u um) (by omega) (fun j hj' => by rw [ds j hj', if_pos hh])
      have r1 : r1T e s (h + 1) i t = (t.1.set (s i) x, t.2) := by
        unfold r1T
        rw [gb, if_pos hh, hx, lv, if_pos hh]
        exact repP_e rfl
      rw [r1]
      have hu2 : (((t.1.set (s i) x, t.2) : Tr E (h + 1))).2[s i]? = some u := hu'
      rw [delP_s hu2]
      obtain ⟨m1, m2⟩ := fin (t.1.set (s i) x) (delP s h (i + 1) u) (by simp) g1
      refine ⟨m1, pre (t.1.take (s i)) ((t.2.take (s i)).map (inT h)) ++ inT h u, ?_⟩
      have hd : t.1.drop (s i) = e :: t.1.drop (s i + 1) := by
        rw [← (List.getElem?_eq_some_iff.mp hk).2, List.getElem_cons_drop]
      cases hd2 : (t.2.drop (s i + 1)).map (inT h) with
      | nil =>
        have : ((t.2.drop (s i + 1)).map (inT h)).length = 0 := by rw [hd2]; rfl
        simp at this
        omega
      | cons d dd =>
        refine ⟨d ++ pos (t.1.drop (s i + 1)) dd, ?_, ?_⟩
        · rw [hin, hd, hd2]
          show _ ++ (_ ++ (e :: (d ++ _))) = _
          simp
        · refine m2.trans ?_
          have q1 : (t.1.set (s i) x).take (s i) = t.1.take (s i) := by rw [List.take_set, List.set_eq_of_length_le (by simp; omega)]
          have q2 : (t.1.set (s i) x).drop (s i) = x :: t.1.drop (s i + 1) := by
            rw [set_sp hk, List.drop_append, List.length_take, Nat.min_eq_left (by omega), Nat.sub_self, List.drop_of_length_le (by simp; omega)]
            rfl
          rw [q1, q2, hd2]
          show _ ++ (_ ++ (x :: (d ++ _))) = _
          rw [g2]
          simp
    · have hh' : hit e t.1 = false := by simpa using hh
      have hnu : fnT e h u = true := by
        rw [hh'] at hn2
        simpa using hn2
      obtain ⟨g1, A, B, gA, gB⟩ := del_ok (s := s) (i := i + 1) (f4 u um) (fun _ => by omega) hnu (fun j hj' => by rw [ds j hj', if_neg hh])
      have key : delP s (h + 1) i (r1T e s (h + 1) i t) = mendT h (s i) ((t.1, t.2.set (s i) (delP s h (i + 1) (r1T e s h (i + 1) u))) : Tr E (h + 1)) := by
        unfold r1T
        rw [gb, if_neg hh, lv, if_neg hh]
        cases hg : gbT e h u with
        | none =>
          show delP s (h + 1) i t = _
          rw [delP_s hu']
        | some x =>
          show delP s (h + 1) i (repP s (i + (lvT e h u + 1)) x (h + 1) i t) = mendT h (s i) (t.1, t.2.set (s i) (delP s h (i + 1) (repP s (i + 1 + lvT e h u) x h (i + 1) u)))
          rw [repP_s (by omega) hu', show i + (lvT e h u + 1) = i + 1 + lvT e h u by omega]
          have hu3 : (((t.1, t.2.set (s i) (repP s (i + 1 + lvT e h u) x h (i + 1) u)) : Tr E (h + 1))).2[s i]? = some (repP s (i + 1 + lvT e h u) x h (i + 1) u) := by
            show (t.2.set (s i) _)[s i]? = _
            rw [List.getElem?_set_self (by omega)]
          rw [delP_s hu3]
          show mendT h (s i) (t.1, (t.2.set (s i) _).set (s i) _) = _
          rw [List.set_set]
      rw [key]
      obtain ⟨m1, m2⟩ := fin t.1 (delP s h (i + 1) (r1T e s h (i + 1) u)) rfl g1
      refine ⟨m1, pre (t.1.take (s i)) ((t.2.take (s i)).map (inT h)) ++ A, B ++ pos (t.1.drop (s i)) ((t.2.drop (s i + 1)).map (inT h)), ?_, ?_⟩
      · rw [hin, gA]; simp
      · rw [m2, gB]; simp
