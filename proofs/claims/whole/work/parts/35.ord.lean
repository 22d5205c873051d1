/-! in order: what comes before and behind a child -/
def pre {α : Type} : List α → List (List α) → List α
  | k :: ks, d :: ds => d ++ k :: pre ks ds
  | _, _ => []
def pos {α : Type} : List α → List (List α) → List α
  | k :: ks, d :: ds => k :: (d ++ pos ks ds)
  | _, _ => []
section ORD
variable {α : Type}
theorem itr_pre : ∀ {K1 : List α} {D1 : List (List α)}, K1.length = D1.length → ∀ K2 D2, itr (K1 ++ K2) (D1 ++ D2) = pre K1 D1 ++ itr K2 D2
  | [], [], _, K2, D2 => rfl
  | k :: ks, d :: ds, h, K2, D2 => by
    have ih := itr_pre (K1 := ks) (D1 := ds) (by simpa using h) K2 D2
    show d ++ k :: itr (ks ++ K2) (ds ++ D2) = (d ++ k :: pre ks ds) ++ itr K2 D2
    rw [ih]
    simp
  | [], d :: ds, h, _, _ => by simp at h
  | k :: ks, [], h, _, _ => by simp at h
theorem itr_pos {u : List α} : ∀ {K2 : List α} {D2 : List (List α)}, K2.length = D2.length → itr K2 (u :: D2) = u ++ pos K2 D2
  | [], [], _ => by simp [itr, pos]
  | k :: ks, d :: ds, h => by
    have ih := itr_pos (u := d) (K2 := ks) (D2 := ds) (by simpa using h)
    show u ++ k :: itr ks (d :: ds) = u ++ k :: (d ++ pos ks ds)
    rw [ih]
  | [], d :: ds, h => by simp at h
  | k :: ks, [], h => by simp at h
theorem itr_join {x : α} {K2 : List α} {D2 : List (List α)} : ∀ {K1 : List α} {D1 : List (List α)}, D1.length = K1.length + 1 → itr (K1 ++ x :: K2) (D1 ++ D2) = itr K1 D1 ++ x :: itr K2 D2
  | [], [d], _ => rfl
  | k :: ks, d :: ds, h => by
    have ih := itr_join (x := x) (K2 := K2) (D2 := D2) (K1 := ks) (D1 := ds) (by simpa using h)
    show d ++ k :: itr (ks ++ x :: K2) (ds ++ D2) = (d ++ k :: itr ks ds) ++ x :: itr K2 D2
    rw [ih]
    simp
  | [], [], h => by simp at h
  | [], d :: d2 :: ds, h => by simp at h
  | k :: ks, [], h => by simp at h
theorem inT_mk {h : Nat} {K1 K2 : List α} {D1 D2 : List (Tr α h)} {u : Tr α h} (h1 : K1.length = D1.length) (h2 : K2.length = D2.length) : inT (h + 1) ((K1 ++ K2, D1 ++ u :: D2) : Tr α (h + 1)) = pre K1 (D1.map (inT h)) ++ (inT h u ++ pos K2 (D2.map (inT h))) := by
  show itr (K1 ++ K2) ((D1 ++ u :: D2).map (inT h)) = _
  rw [List.map_append, List.map_cons, itr_pre (by simpa using h1), itr_pos (by simpa using h2)]
theorem inT_at {h k : Nat} {K : List α} {D : List (Tr α h)} {u v : Tr α h} (hl : D.length = K.length + 1) (hk : D[k]? = some u) : inT (h + 1) ((K, D.set k v) : Tr α (h + 1)) = pre (K.take k) ((D.take k).map (inT h)) ++ (inT h v ++ pos (K.drop k) ((D.drop (k + 1)).map (inT h))) := by
  have kl := (List.getElem?_eq_some_iff.mp hk).1
  rw [set_sp hk]
  have e : K = K.take k ++ K.drop k := (List.take_append_drop k K).symm
  conv => lhs; rw [e]
  refine inT_mk ?_ ?_
  · simp; omega
  · simp; omega
theorem set_same {β : Type} {L : List β} {k : Nat} {x : β} (h : L[k]? = some x) : L.set k x = L := by
  rw [set_sp h]
  exact (sp1 h).symm
theorem inT_at0 {h k : Nat} {K : List α} {D : List (Tr α h)} {u : Tr α h} (hl : D.length = K.length + 1) (hk : D[k]? = some u) : inT (h + 1) ((K, D) : Tr α (h + 1)) = pre (K.take k) ((D.take k).map (inT h)) ++ (inT h u ++ pos (K.drop k) ((D.drop (k + 1)).map (inT h))) := by
  have := inT_at (K := K) (v := u) hl hk
  rw [set_same hk] at this
  exact this
/-! how full nodes are -/
def fil : (h : Nat) → Nat → Nat → Tr α h → Prop
  | 0, a, b, t => a ≤ List.length t ∧ List.length t ≤ b
  | h + 1, a, b, t => a ≤ t.1.length ∧ t.1.length ≤ b ∧ t.2.length = t.1.length + 1 ∧ ∀ u ∈ t.2, fil h 2 4 u
theorem fil_ky : ∀ {h a b : Nat} {t : Tr α h}, fil h a b t → a ≤ (kyT h t).length ∧ (kyT h t).length ≤ b
  | 0, _, _, _, H => H
  | _ + 1, _, _, _, H => ⟨H.1, H.2.1⟩
theorem fil_len : ∀ {h a b a' b' : Nat} {t : Tr α h}, fil h a b t → a' ≤ (kyT h t).length → (kyT h t).length ≤ b' → fil h a' b' t
  | 0, _, _, _, _, _, _, h1, h2 => ⟨h1, h2⟩
  | _ + 1, _, _, _, _, _, H, h1, h2 => ⟨h1, h2, H.2.2⟩
theorem fil_mono {h a b a' b' : Nat} {t : Tr α h} (H : fil h a b t) (h1 : a' ≤ a) (h2 : b ≤ b') : fil h a' b' t :=
  fil_len H (Nat.le_trans h1 (fil_ky H).1) (Nat.le_trans (fil_ky H).2 h2)
theorem len5 (l : List α) (h : l.length = 5) : (2 ≤ (l.take 2).length ∧ (l.take 2).length ≤ 4) ∧ (2 ≤ (l.drop 3).length ∧ (l.drop 3).length ≤ 4) := by
  rw [List.length_take, List.length_drop, h]; decide
theorem half_in : ∀ {h : Nat} {t : Tr α h} {x : α}, fil h 0 5 t → (kyT h t).length = 5 → (kyT h t)[2]? = some x → inT h t = inT h (lfT h t) ++ x :: inT h (rtT h t) ∧ fil h 2 4 (lfT h t) ∧ fil h 2 4 (rtT h t)
  | 0, t, x, hf, h5, hx => by
    have h5' : List.length t = 5 := h5
    refine ⟨sp1 hx, ?_, ?_⟩
    · exact (len5 t h5').1
    · exact (len5 t h5').2
  | h + 1, t, x, hf, h5, hx => by
    have h5' : t.1.length = 5 := h5
    have hx' : t.1[2]? = some x := hx
    have h6 : t.2.length = 6 := by rw [hf.2.2.1, h5']
    refine ⟨?_, ?_, ?_⟩
    · show itr t.1 (t.2.map (inT h)) = itr (t.1.take 2) ((t.2.take 3).map (inT h)) ++ x :: itr (t.1.drop 3) ((t.2.drop 3).map (inT h))
      rw [← itr_join (by simp [h5', h6]), ← sp1 hx', ← List.map_append, List.take_append_drop]
    · show 2 ≤ (t.1.take 2).length ∧ (t.1.take 2).length ≤ 4 ∧ (t.2.take 3).length = (t.1.take 2).length + 1 ∧ ∀ u ∈ t.2.take 3, fil h 2 4 u
      rw [List.length_take, List.length_take, h5', h6]
      exact ⟨by decide, by decide, by decide, fun u hu => hf.2.2.2 u (List.mem_of_mem_take hu)⟩
    · show 2 ≤ (t.1.drop 3).length ∧ (t.1.drop 3).length ≤ 4 ∧ (t.2.drop 3).length = (t.1.drop 3).length + 1 ∧ ∀ u ∈ t.2.drop 3, fil h 2 4 u
      rw [List.length_drop, List.length_drop, h5', h6]
      exact ⟨by decide, by decide, by decide, fun u hu => hf.2.2.2 u (List.mem_of_mem_drop hu)⟩
/-! an entry comes -/
def pOK (s : Nat → Nat) : (h : Nat) → Nat → Tr α h → Prop
  | 0, i, t => s i ≤ List.length t
  | h + 1, i, t => s i ≤ t.1.length ∧ ∀ u, t.2[s i]? = some u → pOK s h (i + 1) u
def LH (lo hi : α → Prop) (s : Nat → Nat) : (h : Nat) → Nat → Tr α h → Prop
  | 0, i, t => (∀ x ∈ List.take (s i) t, lo x) ∧ (∀ x ∈ List.drop (s i) t, hi x)
  | h + 1, i, t => (∀ x ∈ pre (t.1.take (s i)) ((t.2.take (s i)).map (inT h)), lo x) ∧ (∀ x ∈ pos (t.1.drop (s i)) ((t.2.drop (s i + 1)).map (inT h)), hi x) ∧ ∀ u, t.2[s i]? = some u → LH lo hi s h (i + 1) u
theorem insP_keep {s : Nat → Nat} {e : α} {h i : Nat} {t : Tr α (h + 1)} {u : Tr α h} (hu : t.2[s i]? = some u) (h4 : (kyT h (insP s e h (i + 1) u)).length ≤ 4) : insP s e (h + 1) i t = (t.1, t.2.set (s i) (insP s e h (i + 1) u)) := by
  have e4 : (kyT h (insP s e h (i + 1) u))[4]? = none := List.getElem?_eq_none h4
  conv => lhs; unfold insP
  rw [hu]
  simp only [e4]
  rfl
theorem insP_split {s : Nat → Nat} {e x : α} {h i : Nat} {t : Tr α (h + 1)} {u : Tr α h} (hu : t.2[s i]? = some u) (h5 : (kyT h (insP s e h (i + 1) u)).length = 5) (hx : (kyT h (insP s e h (i + 1) u))[2]? = some x) : insP s e (h + 1) i t = (insL t.1 (s i) x, insL (t.2.set (s i) (lfT h (insP s e h (i + 1) u))) (s i + 1) (rtT h (insP s e h (i + 1) u))) := by
  have e4 : (kyT h (insP s e h (i + 1) u))[4]? = some ((kyT h (insP s e h (i + 1) u))[4]'(by omega)) := List.getElem?_eq_getElem (by omega)
  conv => lhs; unfold insP
  rw [hu]
  simp only [e4, hx]
  rfl
theorem ins_kids {β : Type} {D : List β} {k : Nat} {u l r : β} (hk : D[k]? = some u) : insL (D.set k l) (k + 1) r = D.take k ++ l :: (r :: D.drop (k + 1)) := by
  have kl := (List.getElem?_eq_some_iff.mp hk).1
  unfold insL
  rw [set_sp hk]
  have h1 : (D.take k).length = k := by rw [List.length_take]; omega
  rw [List.take_append, List.drop_append, h1, show k + 1 - k = 1 by omega]
  rw [List.take_of_length_le (l := D.take k) (by omega), List.drop_of_length_le (l := D.take k) (by omega)]
  simp
set_option maxHeartbeats 1000000 in
theorem ins_ok {lo hi : α → Prop} {s : Nat → Nat} {e : α} : ∀ {h i a : Nat} {t : Tr α h}, fil h a 4 t → pOK s h i t → fil h a 5 (insP s e h i t) ∧ ∃ A B, inT h t = A ++ B ∧ inT h (insP s e h i t) = A ++ e :: B ∧ (LH lo hi s h i t → (∀ x ∈ A, lo x) ∧ (∀ x ∈ B, hi x))
  | 0, i, a, t, hf, hp => by
    have hf' : a ≤ List.length t ∧ List.length t ≤ 4 := hf
    refine ⟨?_, List.take (s i) t, List.drop (s i) t, ?_, rfl, fun H => H⟩
    · show a ≤ (insL t (s i) e).length ∧ (insL t (s i) e).length ≤ 5
      rw [insL_len t e hp]
      omega
    · show t = _
      exact (List.take_append_drop (s i) t).symm
  | h + 1, i, a, t, hf, hp => by
    obtain ⟨f1, f2, f3, f4⟩ := hf
    have kl : s i < t.2.length := by have := hp.1; omega
    obtain ⟨u, hu⟩ : ∃ u, t.2[s i]? = some u := ⟨t.2[s i], List.getElem?_eq_getElem kl⟩
    have um : u ∈ t.2 := List.mem_of_getElem? hu
    obtain ⟨g1, A, B, gA, gB, gL⟩ := ins_ok (lo := lo) (hi := hi) (e := e) (f4 u um) (hp.2 u hu)
    have hin : inT (h + 1) t = pre (t.1.take (s i)) ((t.2.take (s i)).map (inT h)) ++ (inT h u ++ pos (t.1.drop (s i)) ((t.2.drop (s i + 1)).map (inT h))) := inT_at0 f3 hu
    have fin : ∀ l : List α, l = pre (t.1.take (s i)) ((t.2.take (s i)).map (inT h)) ++ (inT h (insP s e h (i + 1) u) ++ pos (t.1.drop (s i)) ((t.2.drop (s i + 1)).map (inT h))) → ∃ A B, inT (h + 1) t = A ++ B ∧ l = A ++ e :: B ∧ (LH lo hi s (h + 1) i t → (∀ x ∈ A, lo x) ∧ (∀ x ∈ B, hi x)) := by
      intro l hl
      refine ⟨pre (t.1.take (s i)) ((t.2.take (s i)).map (inT h)) ++ A, B ++ pos (t.1.drop (s i)) ((t.2.drop (s i + 1)).map (inT h)), ?_, ?_, ?_⟩
      · rw [hin, gA]; simp
      · rw [hl, gB]; simp
      · intro H
        have gg := gL (H.2.2 u hu)
        refine ⟨fun x hx => ?_, fun x hx => ?_⟩
        · rcases List.mem_append.mp hx with h | h
          · exact H.1 x h
          · exact gg.1 x h
        · rcases List.mem_append.mp hx with h | h
          · exact gg.2 x h
          · exact H.2.1 x h
    have k5 := (fil_ky g1).2
    by_cases c : (kyT h (insP s e h (i + 1) u)).length ≤ 4
    · rw [insP_keep hu c]
      refine ⟨⟨f1, by show t.1.length ≤ 5; omega, ?_, ?_⟩, fin _ (inT_at f3 hu)⟩
      · show (t.2.set (s i) _).length = t.1.length + 1
        rw [List.length_set]; exact f3
      · intro v hv
        rcases List.mem_or_eq_of_mem_set hv with h | h
        · exact f4 v h
        · subst h
          exact fil_len g1 (fil_ky g1).1 c
    · have c5 : (kyT h (insP s e h (i + 1) u)).length = 5 := by omega
      obtain ⟨x, hx⟩ : ∃ x, (kyT h (insP s e h (i + 1) u))[2]? = some x := ⟨_, List.getElem?_eq_getElem (by omega)⟩
      rw [insP_split hu c5 hx, ins_kids hu]
      obtain ⟨q1, q2, q3⟩ := half_in (fil_mono g1 (by omega) (Nat.le_refl _)) c5 hx
      refine ⟨⟨?_, ?_, ?_, ?_⟩, fin _ ?_⟩
      · show a ≤ (insL t.1 (s i) x).length
        rw [insL_len _ _ hp.1]; omega
      · show (insL t.1 (s i) x).length ≤ 5
        rw [insL_len _ _ hp.1]; omega
      · show (t.2.take (s i) ++ _ :: (_ :: t.2.drop (s i + 1))).length = (insL t.1 (s i) x).length + 1
        rw [insL_len _ _ hp.1]
        simp
        omega
      · intro v hv
        rcases List.mem_append.mp hv with h | h
        · exact f4 v (List.mem_of_mem_take h)
        · rcases List.mem_cons.mp h with h | h
          · subst h; exact q2
          · rcases List.mem_cons.mp h with h | h
            · subst h; exact q3
            · exact f4 v (List.mem_of_mem_drop h)
      · unfold insL
        rw [inT_mk (K1 := t.1.take (s i)) (D1 := t.2.take (s i)) (by simp; omega) (by simp; omega)]
        rw [q1, List.map_cons]
        show _ ++ (_ ++ (x :: (inT h (rtT h _) ++ pos _ _))) = _
        simp
end ORD
