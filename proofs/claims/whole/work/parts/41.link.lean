/-! from the way in a store to the way in a tree -/
section LINK
variable {α : Type} {V : Nat → Prop} {ns : Nat → List α × List Int}
theorem pthT_shift {s : Nat → Nat} {n c : Nat} (hc : c = ((ns n).2[s 0]?.getD 0).toNat) : ∀ j, pthT ns s n (j + 1) = pthT ns (fun k => s (k + 1)) c j
  | 0 => hc.symm
  | j + 1 => by
    have ih := pthT_shift (s := s) hc j
    show ((ns (pthT ns s n (j + 1))).2[s (j + 1)]?.getD 0).toNat = ((ns (pthT ns (fun k => s (k + 1)) c j)).2[s (j + 1)]?.getD 0).toNat
    rw [ih]
theorem pthT_ns {β : Type} {ns' : Nat → List β × List Int} (h : ∀ m, (ns' m).2 = (ns m).2) (s : Nat → Nat) (n : Nat) : ∀ j, pthT ns' s n j = pthT ns s n j
  | 0 => rfl
  | j + 1 => by
    show ((ns' (pthT ns' s n j)).2[s j]?.getD 0).toNat = ((ns (pthT ns s n j)).2[s j]?.getD 0).toNat
    rw [pthT_ns h s n j, h]
theorem fpT_ns {β : Type} {ns' : Nat → List β × List Int} (h : ∀ m, (ns' m).2 = (ns m).2) : ∀ g n, fpT ns' g n = fpT ns g n
  | 0, _ => rfl
  | g + 1, n => by
    show n :: (ns' n).2.flatMap (fun c => fpT ns' g c.toNat) = n :: (ns n).2.flatMap (fun c => fpT ns g c.toNat)
    rw [h, flat_congr (fun c _ => fpT_ns h g c.toNat)]
theorem wfT_ns {β : Type} {ns' : Nat → List β × List Int} (h : ∀ m, (ns' m).2 = (ns m).2) (h1 : ∀ m, (ns' m).1.length = (ns m).1.length) : ∀ g n, wfT V ns g n → wfT V ns' g n
  | 0, n, hw => ⟨hw.1, by rw [h, h1]; exact hw.2⟩
  | g + 1, n, hw => ⟨hw.1, by rw [h, h1]; exact hw.2.1, by rw [h]; exact fun c hc => ⟨(hw.2.2 c hc).1, wfT_ns h h1 g c.toNat (hw.2.2 c hc).2⟩⟩
/-- the first child on a way -/
theorem kid_of {h n : Nat} {k : Nat} (hw : wfT V ns (h + 1) n) (hk : k ≤ (ns n).1.length) : ∃ c : Int, (ns n).2[k]? = some c ∧ 0 ≤ c ∧ wfT V ns h c.toNat ∧ ((ns n).2[k]?.getD 0).toNat = c.toNat := by
  have kl : k < (ns n).2.length := by rw [hw.2.1]; omega
  have hc := List.getElem?_eq_getElem kl
  have := hw.2.2 _ (List.mem_of_getElem? hc)
  exact ⟨_, hc, this.1, this.2, by rw [hc]; rfl⟩
theorem pOK_of {s : Nat → Nat} : ∀ {h n i : Nat}, wfT V ns h n → (∀ j, j ≤ h → s (i + j) ≤ (ns (pthT ns (fun k => s (i + k)) n j)).1.length) → pOK s h i (mkT ns h n)
  | 0, n, i, hw, hs => hs 0 (Nat.le_refl _)
  | h + 1, n, i, hw, hs => by
    have h0 : s i ≤ (ns n).1.length := hs 0 (by omega)
    obtain ⟨c, hc, c0, wc, ec⟩ := kid_of hw h0
    refine ⟨h0, fun u hu => ?_⟩
    rw [mkT_k hc] at hu
    cases hu
    refine pOK_of wc (fun j hj => ?_)
    have := hs (j + 1) (by omega)
    rw [pthT_shift (s := fun k => s (i + k)) (c := c.toNat) ec.symm j] at this
    have e : (fun k => s (i + 1 + k)) = (fun k => s (i + (k + 1))) := funext (fun k => by rw [show i + 1 + k = i + (k + 1) by omega])
    rw [e, show i + 1 + j = i + (j + 1) by omega]
    exact this
theorem key_in : ∀ {h n m : Nat} {x : α}, wfT V ns h n → m ∈ fpT ns h n → x ∈ (ns m).1 → x ∈ inT h (mkT ns h n)
  | 0, n, m, x, _, hm, hx => by
    have : m = n := List.mem_singleton.mp hm
    subst this
    exact hx
  | h + 1, n, m, x, hw, hm, hx => by
    have hl : (mkT ns (h + 1) n).2.length = (mkT ns (h + 1) n).1.length + 1 := by
      show ((ns n).2.map _).length = (ns n).1.length + 1
      rw [List.length_map]; exact hw.2.1
    rcases List.mem_cons.mp hm with e | e
    · subst e
      obtain ⟨k, hk⟩ := List.getElem?_of_mem hx
      exact inT_keys hl hk
    · obtain ⟨c, hc, hm⟩ := List.mem_flatMap.mp e
      obtain ⟨k, hk⟩ := List.getElem?_of_mem hc
      exact inT_kid hl (mkT_k hk) (key_in (hw.2.2 c hc).2 hm hx)
theorem mapT_cg {β : Type} {f g : α → β} : ∀ {h n : Nat}, (∀ m ∈ fpT ns h n, ∀ x ∈ (ns m).1, f x = g x) → mapT f h (mkT ns h n) = mapT g h (mkT ns h n)
  | 0, n, H => List.map_congr_left (H n (fpT_self _ _ _))
  | h + 1, n, H => by
    show ((ns n).1.map f, ((ns n).2.map (fun c => mkT ns h c.toNat)).map (mapT f h)) = ((ns n).1.map g, ((ns n).2.map (fun c => mkT ns h c.toNat)).map (mapT g h))
    rw [List.map_congr_left (H n (fpT_self _ _ _)), List.map_map, List.map_map]
    congr 1
    exact List.map_congr_left (fun c hc => mapT_cg (fun m hm => H m (fpT_kid hc hm)))
theorem fil_map {β : Type} {f : α → β} : ∀ {h a b : Nat} {t : Tr α h}, fil h a b (mapT f h t) → fil h a b t
  | 0, a, b, t, hf => by
    have : ∀ l : List α, a ≤ (l.map f).length ∧ (l.map f).length ≤ b → a ≤ l.length ∧ l.length ≤ b := by
      intro l h; rw [List.length_map] at h; exact h
    exact this t hf
  | h + 1, a, b, t, hf => by
    obtain ⟨f1, f2, f3, f4⟩ := hf
    have g1 : a ≤ (t.1.map f).length := f1
    have g2 : (t.1.map f).length ≤ b := f2
    have g3 : (t.2.map (mapT f h)).length = (t.1.map f).length + 1 := f3
    rw [List.length_map] at g1 g2
    rw [List.length_map, List.length_map] at g3
    exact ⟨g1, g2, g3, fun u hu => fil_map (f4 (mapT f h u) (List.mem_map.mpr ⟨u, hu, rfl⟩))⟩
theorem fil_nodes : ∀ {h n a b : Nat}, b ≤ 4 → fil h a b (mkT ns h n) → ∀ m ∈ fpT ns h n, (ns m).1.length ≤ 4
  | 0, n, a, b, hb, hf, m, hm => by
    have : m = n := List.mem_singleton.mp hm
    subst this
    have h1 : (ns m).1.length ≤ b := hf.2
    omega
  | h + 1, n, a, b, hb, hf, m, hm => by
    obtain ⟨f1, f2, f3, f4⟩ := hf
    rcases List.mem_cons.mp hm with e | e
    · subst e
      have h1 : (ns m).1.length ≤ b := f2
      omega
    · obtain ⟨c, hc, hm⟩ := List.mem_flatMap.mp e
      exact fil_nodes (Nat.le_refl 4) (f4 (mkT ns h c.toNat) (List.mem_map.mpr ⟨c, hc, rfl⟩)) m hm
/-- below the root every node has two keys at least -/
theorem fil_low : ∀ {h n a b : Nat}, fil h a b (mkT ns h n) → ∀ m ∈ fpT ns h n, a ≤ (ns m).1.length ∨ 2 ≤ (ns m).1.length
  | 0, n, a, b, hf, m, hm => by
    have : m = n := List.mem_singleton.mp hm
    subst this
    exact Or.inl hf.1
  | h + 1, n, a, b, hf, m, hm => by
    obtain ⟨f1, f2, f3, f4⟩ := hf
    rcases List.mem_cons.mp hm with e | e
    · subst e
      exact Or.inl f1
    · obtain ⟨c, hc, hm⟩ := List.mem_flatMap.mp e
      have := fil_low (f4 (mkT ns h c.toNat) (List.mem_map.mpr ⟨c, hc, rfl⟩)) m hm
      exact Or.inr (this.elim id id)
theorem rm_of {s : Nat → Nat} : ∀ {h n : Nat}, wfT V ns h n → (∀ j, j < h → s j = (ns (pthT ns s n j)).1.length) → s h = (ns (pthT ns s n h)).1.length - 1 → (∀ j, j ≤ h → s j = rmT h (mkT ns h n) j) ∧ mxT h (mkT ns h n) = (ns (pthT ns s n h)).1.getLast?
  | 0, n, _, _, he => by
    refine ⟨fun j hj => ?_, rfl⟩
    have : j = 0 := by omega
    subst this
    exact he
  | h + 1, n, hw, hs, he => by
    have h0 : s 0 = (ns n).1.length := hs 0 (by omega)
    obtain ⟨c, hc, c0, wc, ec⟩ := kid_of (k := s 0) hw (by omega)
    have hc' : (mkT ns (h + 1) n).2[(mkT ns (h + 1) n).1.length]? = some (mkT ns h c.toNat) := by
      show (mkT ns (h + 1) n).2[(ns n).1.length]? = _
      rw [← h0]; exact mkT_k hc
    have sh := pthT_shift (ns := ns) (s := s) (c := c.toNat) ec.symm
    obtain ⟨i1, i2⟩ := rm_of (s := fun k => s (k + 1)) wc (fun j hj => by rw [← sh j]; exact hs (j + 1) (by omega)) (by rw [← sh h]; exact he)
    refine ⟨fun j hj => ?_, ?_⟩
    · cases j with
      | zero => exact h0
      | succ j =>
        show _ = (match (mkT ns (h + 1) n).2[(mkT ns (h + 1) n).1.length]? with | some u => rmT h u j | none => 0)
        rw [hc']
        exact i1 j (by omega)
    · show (match (mkT ns (h + 1) n).2[(mkT ns (h + 1) n).1.length]? with | some u => mxT h u | none => none) = _
      rw [hc', sh h]
      exact i2
end LINK
section LINKE
variable {V : Nat → Prop} {ns : Nat → List E × List Int} {e : E}
theorem sl_of {s : Nat → Nat} : ∀ {h n : Nat}, wfT V ns h n → (∀ j, j ≤ h → s j = kc e (ns (pthT ns s n j)).1) → ∀ j, j ≤ h → s j = slT e h (mkT ns h n) j
  | 0, n, _, hs, j, hj => by
    have : j = 0 := by omega
    subst this
    exact hs 0 (Nat.le_refl _)
  | h + 1, n, hw, hs, j, hj => by
    have h0 : s 0 = kc e (ns n).1 := hs 0 (by omega)
    obtain ⟨c, hc, c0, wc, ec⟩ := kid_of (k := s 0) hw (by rw [h0]; exact kc_le _ _)
    have sh := pthT_shift (ns := ns) (s := s) (c := c.toNat) ec.symm
    cases j with
    | zero => exact h0
    | succ j =>
      show _ = (match (mkT ns (h + 1) n).2[kc e (ns n).1]? with | some u => slT e h u j | none => 0)
      rw [← h0, mkT_k hc]
      exact sl_of (s := fun k => s (k + 1)) wc (fun j hj => by rw [← sh j]; exact hs (j + 1) (by omega)) j (by omega)
theorem nf_of {s : Nat → Nat} : ∀ {h n : Nat}, wfT V ns h n → (∀ j, j ≤ h → s j = kc e (ns (pthT ns s n j)).1) → (∀ j, j ≤ h → hit e (ns (pthT ns s n j)).1 = false) → fnT e h (mkT ns h n) = false
  | 0, n, _, hs, hn => hn 0 (Nat.le_refl _)
  | h + 1, n, hw, hs, hn => by
    have h0 : s 0 = kc e (ns n).1 := hs 0 (by omega)
    obtain ⟨c, hc, c0, wc, ec⟩ := kid_of (k := s 0) hw (by rw [h0]; exact kc_le _ _)
    have sh := pthT_shift (ns := ns) (s := s) (c := c.toNat) ec.symm
    show (hit e (ns n).1 || match (mkT ns (h + 1) n).2[kc e (ns n).1]? with | some u => fnT e h u | none => false) = false
    rw [← h0, mkT_k hc]
    have g0 : hit e (ns n).1 = false := hn 0 (by omega)
    have g1 := nf_of (s := fun k => s (k + 1)) wc (fun j hj => by rw [← sh j]; exact hs (j + 1) (by omega)) (fun j hj => by rw [← sh j]; exact hn (j + 1) (by omega))
    show (hit e (ns n).1 || fnT e h (mkT ns h c.toNat)) = false
    rw [g0, g1]
    rfl
/-- found in a lowest node -/
theorem fd0_of {s : Nat → Nat} : ∀ {h n : Nat}, wfT V ns h n → (∀ j, j ≤ h → s j = kc e (ns (pthT ns s n j)).1) → (∀ j, j < h → hit e (ns (pthT ns s n j)).1 = false) → hit e (ns (pthT ns s n h)).1 = true → fnT e h (mkT ns h n) = true ∧ lvT e h (mkT ns h n) = h ∧ gbT e h (mkT ns h n) = none ∧ ∀ j, j ≤ h → s j = dsT e h (mkT ns h n) j
  | 0, n, _, hs, hn, ht => by
    refine ⟨ht, rfl, rfl, fun j hj => ?_⟩
    have : j = 0 := by omega
    subst this
    exact hs 0 (Nat.le_refl _)
  | h + 1, n, hw, hs, hn, ht => by
    have h0 : s 0 = kc e (ns n).1 := hs 0 (by omega)
    obtain ⟨c, hc, c0, wc, ec⟩ := kid_of (k := s 0) hw (by rw [h0]; exact kc_le _ _)
    have sh := pthT_shift (ns := ns) (s := s) (c := c.toNat) ec.symm
    have g0 : hit e (ns n).1 = false := hn 0 (by omega)
    have g0' : ¬ hit e (ns n).1 = true := by rw [g0]; decide
    obtain ⟨i1, i2, i3, i4⟩ := fd0_of (s := fun k => s (k + 1)) wc (fun j hj => by rw [← sh j]; exact hs (j + 1) (by omega)) (fun j hj => by rw [← sh j]; exact hn (j + 1) (by omega)) (by rw [← sh h]; exact ht)
    refine ⟨?_, ?_, ?_, fun j hj => ?_⟩
    · show (hit e (ns n).1 || match (mkT ns (h + 1) n).2[kc e (ns n).1]? with | some u => fnT e h u | none => false) = true
      rw [← h0, mkT_k hc]
      show (hit e (ns n).1 || fnT e h (mkT ns h c.toNat)) = true
      rw [i1, Bool.or_true]
    · show (if hit e (ns n).1 then 0 else match (mkT ns (h + 1) n).2[kc e (ns n).1]? with | some u => lvT e h u + 1 | none => 0) = h + 1
      rw [← h0, mkT_k hc, if_neg g0']
      show lvT e h (mkT ns h c.toNat) + 1 = h + 1
      rw [i2]
    · show (match (mkT ns (h + 1) n).2[kc e (ns n).1]? with | some u => if hit e (ns n).1 then mxT h u else gbT e h u | none => none) = none
      rw [← h0, mkT_k hc]
      show (if hit e (ns n).1 then mxT h (mkT ns h c.toNat) else gbT e h (mkT ns h c.toNat)) = none
      rw [if_neg g0', i3]
    · cases j with
      | zero => exact h0
      | succ j =>
        show _ = (match (mkT ns (h + 1) n).2[kc e (ns n).1]? with | some u => if hit e (ns n).1 then rmT h u j else dsT e h u j | none => 0)
        rw [← h0, mkT_k hc]
        show _ = (if hit e (ns n).1 then rmT h (mkT ns h c.toNat) j else dsT e h (mkT ns h c.toNat) j)
        rw [if_neg g0']
        exact i4 j (by omega)
/-- found above -/
theorem fd1_of {s : Nat → Nat} : ∀ {h n d : Nat}, d < h → wfT V ns h n → (∀ j, j ≤ d → s j = kc e (ns (pthT ns s n j)).1) → (∀ j, j < d → hit e (ns (pthT ns s n j)).1 = false) → hit e (ns (pthT ns s n d)).1 = true → (∀ j, d < j → j < h → s j = (ns (pthT ns s n j)).1.length) → s h = (ns (pthT ns s n h)).1.length - 1 → fnT e h (mkT ns h n) = true ∧ lvT e h (mkT ns h n) = d ∧ gbT e h (mkT ns h n) = (ns (pthT ns s n h)).1.getLast? ∧ ∀ j, j ≤ h → s j = dsT e h (mkT ns h n) j
  | 0, n, d, hd, _, _, _, _, _, _ => absurd hd (by omega)
  | h + 1, n, d, hd, hw, hs, hn, ht, hr, he => by
    have h0 : s 0 = kc e (ns n).1 := hs 0 (by omega)
    obtain ⟨c, hc, c0, wc, ec⟩ := kid_of (k := s 0) hw (by rw [h0]; exact kc_le _ _)
    have sh := pthT_shift (ns := ns) (s := s) (c := c.toNat) ec.symm
    cases d with
    | zero =>
      have g0 : hit e (ns n).1 = true := ht
      obtain ⟨i1, i2⟩ := rm_of (s := fun k => s (k + 1)) wc (fun j hj => by rw [← sh j]; exact hr (j + 1) (by omega) (by omega)) (by rw [← sh h]; exact he)
      refine ⟨?_, ?_, ?_, fun j hj => ?_⟩
      · show (hit e (ns n).1 || match (mkT ns (h + 1) n).2[kc e (ns n).1]? with | some u => fnT e h u | none => false) = true
        rw [g0, Bool.true_or]
      · show (if hit e (ns n).1 then 0 else match (mkT ns (h + 1) n).2[kc e (ns n).1]? with | some u => lvT e h u + 1 | none => 0) = 0
        rw [if_pos g0]
      · show (match (mkT ns (h + 1) n).2[kc e (ns n).1]? with | some u => if hit e (ns n).1 then mxT h u else gbT e h u | none => none) = _
        rw [← h0, mkT_k hc]
        show (if hit e (ns n).1 then mxT h (mkT ns h c.toNat) else gbT e h (mkT ns h c.toNat)) = _
        rw [if_pos g0, i2, sh h]
      · cases j with
        | zero => exact h0
        | succ j =>
          show _ = (match (mkT ns (h + 1) n).2[kc e (ns n).1]? with | some u => if hit e (ns n).1 then rmT h u j else dsT e h u j | none => 0)
          rw [← h0, mkT_k hc]
          show _ = (if hit e (ns n).1 then rmT h (mkT ns h c.toNat) j else dsT e h (mkT ns h c.toNat) j)
          rw [if_pos g0]
          exact i1 j (by omega)
    | succ d =>
      have g0 : hit e (ns n).1 = false := hn 0 (by omega)
      have g0' : ¬ hit e (ns n).1 = true := by rw [g0]; decide
      obtain ⟨i1, i2, i3, i4⟩ := fd1_of (s := fun k => s (k + 1)) (d := d) (by omega) wc (fun j hj => by rw [← sh j]; exact hs (j + 1) (by omega)) (fun j hj => by rw [← sh j]; exact hn (j + 1) (by omega)) (by rw [← sh d]; exact ht) (fun j h1 h2 => by rw [← sh j]; exact hr (j + 1) (by omega) (by omega)) (by rw [← sh h]; exact he)
      refine ⟨?_, ?_, ?_, fun j hj => ?_⟩
      · show (hit e (ns n).1 || match (mkT ns (h + 1) n).2[kc e (ns n).1]? with | some u => fnT e h u | none => false) = true
        rw [← h0, mkT_k hc]
        show (hit e (ns n).1 || fnT e h (mkT ns h c.toNat)) = true
        rw [i1, Bool.or_true]
      · show (if hit e (ns n).1 then 0 else match (mkT ns (h + 1) n).2[kc e (ns n).1]? with | some u => lvT e h u + 1 | none => 0) = d + 1
        rw [← h0, mkT_k hc, if_neg g0']
        show lvT e h (mkT ns h c.toNat) + 1 = d + 1
        rw [i2]
      · show (match (mkT ns (h + 1) n).2[kc e (ns n).1]? with | some u => if hit e (ns n).1 then mxT h u else gbT e h u | none => none) = _
        rw [← h0, mkT_k hc]
        show (if hit e (ns n).1 then mxT h (mkT ns h c.toNat) else gbT e h (mkT ns h c.toNat)) = _
        rw [if_neg g0', i3, sh h]
      · cases j with
        | zero => exact h0
        | succ j =>
          show _ = (match (mkT ns (h + 1) n).2[kc e (ns n).1]? with | some u => if hit e (ns n).1 then rmT h u j else dsT e h u j | none => 0)
          rw [← h0, mkT_k hc]
          show _ = (if hit e (ns n).1 then rmT h (mkT ns h c.toNat) j else dsT e h (mkT ns h c.toNat) j)
          rw [if_neg g0']
          exact i4 j (by omega)
end LINKE
