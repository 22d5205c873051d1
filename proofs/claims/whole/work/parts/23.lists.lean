/-! putting into and taking out of a list, and the same in an array -/
def insL {α : Type} (l : List α) (k : Nat) (x : α) : List α := l.take k ++ x :: l.drop k
def remL {α : Type} (l : List α) (k : Nat) : List α := l.take k ++ l.drop (k + 1)
theorem insL_len {α : Type} (l : List α) {k : Nat} (x : α) (h : k ≤ l.length) : (insL l k x).length = l.length + 1 := by
  simp [insL]; omega
theorem remL_len {α : Type} (l : List α) {k : Nat} (h : k < l.length) : (remL l k).length = l.length - 1 := by
  simp [remL]; omega
theorem insL_lo {α : Type} {l : List α} {k j : Nat} {x : α} (hk : k ≤ l.length) (h : j < k) : (insL l k x)[j]? = l[j]? := by
  unfold insL
  rw [List.getElem?_append_left (by simp; omega), List.getElem?_take_of_lt h]
theorem insL_at {α : Type} {l : List α} {k : Nat} {x : α} (hk : k ≤ l.length) : (insL l k x)[k]? = some x := by
  unfold insL
  rw [List.getElem?_append_right (by simp; omega)]
  simp [Nat.min_eq_left hk]
theorem insL_hi {α : Type} {l : List α} {k j : Nat} {x : α} (hk : k ≤ l.length) (h : k ≤ j) : (insL l k x)[j + 1]? = l[j]? := by
  unfold insL
  rw [List.getElem?_append_right (by simp; omega)]
  simp only [List.length_take, Nat.min_eq_left hk]
  rw [show j + 1 - k = (j - k) + 1 by omega, List.getElem?_cons_succ, List.getElem?_drop]
  rw [show k + (j - k) = j by omega]
theorem remL_lo {α : Type} {l : List α} {k j : Nat} (hk : k < l.length) (h : j < k) : (remL l k)[j]? = l[j]? := by
  unfold remL
  rw [List.getElem?_append_left (by simp; omega), List.getElem?_take_of_lt h]
theorem remL_hi {α : Type} {l : List α} {k j : Nat} (hk : k < l.length) (h : k ≤ j) : (remL l k)[j]? = l[j + 1]? := by
  unfold remL
  rw [List.getElem?_append_right (by simp; omega)]
  simp only [List.length_take, Nat.min_eq_left (Nat.le_of_lt hk)]
  rw [List.getElem?_drop]
  rw [show k + 1 + (j - k) = j + 1 by omega]
theorem seg_ins {f f' : Nat → Int} {b n k : Nat} {x : Int} (hk : k ≤ n) (h1 : ∀ j, j < k → f' (b + j) = f (b + j)) (h2 : f' (b + k) = x) (h3 : ∀ j, k ≤ j → j < n → f' (b + (j + 1)) = f (b + j)) : seg f' b (n + 1) = insL (seg f b n) k x := by
  apply seg_ext
  · rw [insL_len _ _ (by rw [seg_len]; exact hk), seg_len]
  · intro j hj
    rcases Nat.lt_trichotomy j k with h | h | h
    · rw [insL_lo (by rw [seg_len]; exact hk) h, seg_get f b (by omega), h1 j h]
    · subst h
      rw [insL_at (by rw [seg_len]; exact hk), h2]
    · obtain ⟨i, rfl⟩ : ∃ i, j = i + 1 := ⟨j - 1, by omega⟩
      rw [insL_hi (by rw [seg_len]; exact hk) (by omega), seg_get f b (by omega), h3 i (by omega) (by omega)]
theorem seg_rem {f f' : Nat → Int} {b n k : Nat} (hk : k < n) (h1 : ∀ j, j < k → f' (b + j) = f (b + j)) (h3 : ∀ j, k ≤ j → j + 1 < n → f' (b + j) = f (b + (j + 1))) : seg f' b (n - 1) = remL (seg f b n) k := by
  apply seg_ext
  · rw [remL_len _ (by rw [seg_len]; exact hk), seg_len]
  · intro j hj
    by_cases h : j < k
    · rw [remL_lo (by rw [seg_len]; exact hk) h, seg_get f b (by omega), h1 j h]
    · rw [remL_hi (by rw [seg_len]; exact hk) (by omega), seg_get f b (by omega), h3 j (by omega) (by omega)]
theorem seg_set {f f' : Nat → Int} {b n k : Nat} {x : Int} (hk : k < n) (h1 : ∀ j, j < n → j ≠ k → f' (b + j) = f (b + j)) (h2 : f' (b + k) = x) : seg f' b n = (seg f b n).set k x := by
  apply seg_ext
  · simp [seg_len]
  · intro j hj
    rw [List.getElem?_set, seg_len]
    by_cases h : k = j
    · subst h; simp [hk, h2]
    · rw [if_neg h, seg_get f b hj, h1 j hj (Ne.symm h)]
