/-! an entry comes: from level to level -/
theorem insL_rep {n k : Nat} {x : Int} (h : k ≤ n) : insL (List.replicate n x) k x = List.replicate (n + 1) x := by
  apply List.ext_getElem?
  intro j
  rw [List.getElem?_replicate]
  rcases Nat.lt_trichotomy j k with hj | hj | hj
  · rw [insL_lo (by simpa using h) hj, List.getElem?_replicate, if_pos (by omega), if_pos (by omega)]
  · subst hj
    rw [insL_at (by simpa using h), if_pos (by omega)]
  · obtain ⟨i, rfl⟩ : ∃ i, j = i + 1 := ⟨j - 1, by omega⟩
    rw [insL_hi (by simpa using h) (by omega), List.getElem?_replicate]
    by_cases c : i < n
    · rw [if_pos c, if_pos (by omega)]
    · rw [if_neg c, if_neg (by omega)]
theorem insL_map {α β : Type} (f : α → β) (l : List α) (k : Nat) (x : α) : (insL l k x).map f = insL (l.map f) k (f x) := by
  simp [insL, List.map_append, List.map_take, List.map_drop]
theorem insL_mem {α : Type} {l : List α} {k : Nat} {x y : α} (h : y ∈ insL l k x) : y = x ∨ y ∈ l := by
  unfold insL at h
  rcases List.mem_append.mp h with h | h
  · exact Or.inr (List.mem_of_mem_take h)
  · rcases List.mem_cons.mp h with h | h
    · exact Or.inl h
    · exact Or.inr (List.mem_of_mem_drop h)
theorem fp_up {α : Type} {V : Nat → Prop} {ns : Nat → List α × List Int} {s : Nat → Nat} {d n0 : Nat} (h : PthOK V ns s d n0) : ∀ i, i ≤ d → ∀ m ∈ fpT ns (d - i) (pthT ns s n0 i), m ∈ fpT ns d n0 := by
  intro i
  induction i with
  | zero => intro _ m hm; exact hm
  | succ i ih =>
    intro hi m hm
    obtain ⟨c, c0, hc, he, hmem⟩ := pth_kid h (i := i) (by omega)
    refine ih (by omega) m ?_
    obtain ⟨g, hg⟩ : ∃ g, d - i = g + 1 := ⟨d - i - 1, by omega⟩
    rw [hg]
    rw [show d - (i + 1) = g by omega, he] at hm
    exact fpT_kid hmem hm
section INS
variable {α : Type} {V : Nat → Prop} {ns0 ns ns1 ns2 : Nat → List α × List Int} {s : Nat → Nat} {e : α} {d n0 i : Nat} {fr : List Nat}
theorem invA_start (hp : PthOK V ns0 s d n0) (h1 : ns (pthT ns0 s n0 d) = (insL (ns0 (pthT ns0 s n0 d)).1 (s d) e, insL (ns0 (pthT ns0 s n0 d)).2 (s d + 1) (-1))) (h2 : ∀ m, V m → m ≠ pthT ns0 s n0 d → ns m = ns0 m) : InvA V ns0 ns s e d n0 d [] := by
  obtain ⟨w, -⟩ := pth_wf hp d (Nat.le_refl d)
  have hs := hp.2.2 d (Nat.le_refl d)
  rw [Nat.sub_self] at w
  unfold InvA
  rw [Nat.sub_self]
  refine ⟨fun m hm _ hj => h2 m hm (hj d (Nat.le_refl _) (Nat.le_refl _)), ?_, ?_, ?_⟩
  · show (ns _).1 = insL (ns0 _).1 (s d) e
    rw [h1]
  · refine ⟨w.1, ?_⟩
    rw [h1]
    show insL (ns0 _).2 (s d + 1) (-1) = List.replicate ((insL (ns0 _).1 (s d) e).length + 1) (-1)
    rw [w.2, insL_len _ _ hs, insL_rep (by omega)]
  · show [_].Perm ([_] ++ [])
    exact List.Perm.refl _
/-- what the level's own node and its other children need not fear -/
theorem invA_off (hp : PthOK V ns0 s d n0) (hi : i < d) (hfr : ∀ m ∈ fr, m ∉ fpT ns0 d n0) (hI : ∀ m, V m → m ∉ fr → (∀ j, i + 1 ≤ j → j ≤ d → m ≠ pthT ns0 s n0 j) → ns m = ns0 m) : ns (pthT ns0 s n0 i) = ns0 (pthT ns0 s n0 i) ∧ ∀ k c, (ns0 (pthT ns0 s n0 i)).2[k]? = some c → k ≠ s i → ∀ m ∈ fpT ns0 (d - (i + 1)) c.toNat, ns m = ns0 m := by
  obtain ⟨w, wn⟩ := pth_wf hp i (by omega)
  obtain ⟨g, hg⟩ : ∃ g, d - i = g + 1 := ⟨d - i - 1, by omega⟩
  have hg2 : d - (i + 1) = g := by omega
  have hin : ∀ m ∈ fpT ns0 (d - i) (pthT ns0 s n0 i), m ∈ fpT ns0 d n0 := fp_up hp i (by omega)
  constructor
  · refine hI _ (wfT_V w _ (fpT_self _ _ _)) (fun h => hfr _ h (hin _ (fpT_self _ _ _))) (fun j h1 h2 => (pth_off hp (by omega) h2).1)
  · intro k c hk hne m hm
    have hmem : m ∈ fpT ns0 (d - i) (pthT ns0 s n0 i) := by
      rw [hg]
      rw [hg2] at hm
      exact fpT_kid (List.mem_of_getElem? hk) hm
    refine hI m (wfT_V w m hmem) (fun h => hfr m h (hin m hmem)) (fun j h1 h2 e => ?_)
    exact (pth_off hp (show i < j by omega) h2).2 k c hk hne (e ▸ hm)
theorem invA_up (hp : PthOK V ns0 s d n0) (hi : i < d) (hfr : ∀ m ∈ fr, m ∉ fpT ns0 d n0) (hI : InvA V ns0 ns s e d n0 (i + 1) fr) (h4 : (ns (pthT ns0 s n0 (i + 1))).1.length ≤ 4) : InvA V ns0 ns s e d n0 i fr := by
  obtain ⟨i1, i2, i3, i4⟩ := hI
  obtain ⟨o1, o2⟩ := invA_off hp hi hfr i1
  obtain ⟨w, wn⟩ := pth_wf hp i (by omega)
  obtain ⟨g, hg⟩ : ∃ g, d - i = g + 1 := ⟨d - i - 1, by omega⟩
  have hg2 : d - (i + 1) = g := by omega
  obtain ⟨c, c0, hc, he, hmem⟩ := pth_kid hp hi
  rw [hg2, he] at i2 i3 i4
  rw [hg2] at o2
  rw [hg] at w
  rw [he] at h4
  unfold InvA
  rw [hg]
  refine ⟨fun m hm hf hj => i1 m hm hf (fun j h1 h2 => hj j (by omega) h2), ?_, wfT_kid w o1 hc o2 i3, fpT_kidP o1 hc o2 i4⟩
  rw [mkT_kid o1 hc o2]
  have e1 : (mkT ns0 (g + 1) (pthT ns0 s n0 i)).2[s i]? = some (mkT ns0 g c.toNat) := by
    show ((ns0 _).2.map (fun c => mkT ns0 g c.toNat))[s i]? = _
    rw [List.getElem?_map, hc]
    rfl
  have e2 : (kyT g (insP s e g (i + 1) (mkT ns0 g c.toNat)))[4]? = none := by
    rw [← i2, kyT_mk]
    exact List.getElem?_eq_none h4
  unfold insP
  rw [e1]
  simp only [e2]
  rw [i2]
  rfl
end INS
