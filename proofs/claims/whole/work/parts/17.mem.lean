/-! reading behind writing -/
theorem wrx {x : Int} (h1 : -2147483648 ≤ x) (h2 : x < 2147483648) : wr x = x := wr_of ⟨h1, h2⟩
theorem inRx {x : Int} (h1 : -2147483648 ≤ x) (h2 : x < 2147483648) : inR x := ⟨h1, h2⟩
theorem rd_lo (I : Mm) (a k : Nat) : -2147483648 ≤ rd I a k := (rd_in I a k).1
theorem rd_hi (I : Mm) (a k : Nat) : rd I a k < 2147483648 := (rd_in I a k).2
theorem rd_wt (I : Mm) (a k : Nat) (x : Int) (b j : Nat) : rd (wt I a k x) b j = if b = a then (if j = k then wr x else rd I a j) else rd I b j := by
  unfold rd wt va_up upd
  by_cases h1 : b = a
  · by_cases h2 : j = k
    · subst h1; subst h2; simp [wr]
    · subst h1; simp [h2]
  · simp [h1]
theorem rd_wt_s (I : Mm) (a k : Nat) {x : Int} (hx : inR x) : rd (wt I a k x) a k = x := by
  rw [rd_wt, if_pos rfl, if_pos rfl, wr_of hx]
theorem rd_wt_k (I : Mm) (a k : Nat) (x : Int) {j : Nat} (h : j ≠ k) : rd (wt I a k x) a j = rd I a j := by
  rw [rd_wt, if_pos rfl, if_neg h]
theorem rd_wt_a (I : Mm) (a k : Nat) (x : Int) {b : Nat} (h : b ≠ a) (j : Nat) : rd (wt I a k x) b j = rd I b j := by
  rw [rd_wt, if_neg h]
theorem rd_cp (I : Mm) (r0 r1 sp dp n b j : Nat) : rd (cp I r0 r1 sp dp n) b j = if b = r1 then (if dp ≤ j ∧ j < dp + n then rd I r0 (sp + (j - dp)) else rd I r1 j) else rd I b j := by
  unfold rd cp va_up va_cpy
  by_cases h1 : b = r1
  · by_cases h2 : dp ≤ j ∧ j < dp + n
    · subst h1; simp [h2]
    · subst h1; simp [h2]
  · simp [h1]
theorem rd_cp_a (I : Mm) (r0 r1 sp dp n : Nat) {b : Nat} (h : b ≠ r1) (j : Nat) : rd (cp I r0 r1 sp dp n) b j = rd I b j := by
  rw [rd_cp, if_neg h]
theorem rd_cp_i (I : Mm) (r0 r1 sp dp n : Nat) {j : Nat} (h : dp ≤ j ∧ j < dp + n) : rd (cp I r0 r1 sp dp n) r1 j = rd I r0 (sp + (j - dp)) := by
  rw [rd_cp, if_pos rfl, if_pos h]
theorem rd_cp_o (I : Mm) (r0 r1 sp dp n : Nat) {j : Nat} (h : ¬ (dp ≤ j ∧ j < dp + n)) : rd (cp I r0 r1 sp dp n) r1 j = rd I r1 j := by
  rw [rd_cp, if_pos rfl, if_neg h]
theorem wt_a (I : Mm) (a k : Nat) (x : Int) {b : Nat} (h : b ≠ a) : wt I a k x b = I b := by
  unfold wt; rw [va_up_ne _ _ h]
theorem cp_a (I : Mm) (r0 r1 sp dp n : Nat) {b : Nat} (h : b ≠ r1) : cp I r0 r1 sp dp n b = I b := by
  unfold cp; rw [va_up_ne _ _ h]
theorem rd_of {I I' : Mm} {a : Nat} (h : I' a = I a) (k : Nat) : rd I' a k = rd I a k := by
  unfold rd; rw [h]
def okO (m : Option AV) : Prop := ∀ v, m = some v → okF v
theorem okO_n : okO none := fun v h => by cases h
theorem okO_s {v : AV} (h : okF v) : okO (some v) := fun w e => by cases e; exact h
theorem okFL_o {m : Option AV} {ls : AL} (h : okO m) (t : okFL ls) : okFL (m :: ls) := by
  intro w hw
  rcases List.mem_cons.mp hw with h1 | h1
  · exact h w h1.symm
  · exact t w h1
/-! rows of an array -/
def seg (f : Nat → Int) (b n : Nat) : List Int := (List.range n).map (fun k => f (b + k))
theorem seg_len (f : Nat → Int) (b n : Nat) : (seg f b n).length = n := by simp [seg]
theorem seg_get (f : Nat → Int) (b : Nat) {n k : Nat} (h : k < n) : (seg f b n)[k]? = some (f (b + k)) := by simp [seg, h]
theorem seg_ext {f : Nat → Int} {b n : Nat} {l : List Int} (hl : l.length = n) (h : ∀ k, k < n → l[k]? = some (f (b + k))) : seg f b n = l := by
  apply List.ext_getElem?
  intro i
  by_cases hi : i < n
  · rw [seg_get f b hi, h i hi]
  · rw [List.getElem?_eq_none (by rw [seg_len]; omega), List.getElem?_eq_none (by omega)]
theorem seg_congr {f g : Nat → Int} {b c n : Nat} (h : ∀ k, k < n → f (b + k) = g (c + k)) : seg f b n = seg g c n := by
  apply seg_ext (seg_len _ _ _)
  intro k hk
  rw [seg_get g c hk, h k hk]
theorem seg_zero (f : Nat → Int) (b : Nat) : seg f b 0 = [] := rfl
theorem seg_succ (f : Nat → Int) (b n : Nat) : seg f b (n + 1) = seg f b n ++ [f (b + n)] := by
  simp [seg, List.range_succ]
theorem seg_cons (f : Nat → Int) (b n : Nat) : seg f b (n + 1) = f b :: seg f (b + 1) n := by
  apply seg_ext
  · simp [seg_len]
  · intro k hk
    cases k with
    | zero => simp
    | succ k =>
      rw [List.getElem?_cons_succ, seg_get f (b + 1) (by omega)]
      rw [show b + 1 + k = b + (k + 1) by omega]
theorem seg_app (f : Nat → Int) (b n m : Nat) : seg f b (n + m) = seg f b n ++ seg f (b + n) m := by
  apply seg_ext
  · simp [seg_len]
  · intro k hk
    by_cases h : k < n
    · rw [List.getElem?_append_left (by rw [seg_len]; exact h), seg_get f b h]
    · rw [List.getElem?_append_right (by rw [seg_len]; omega), seg_len, seg_get f (b + n) (by omega)]
      rw [show b + n + (k - n) = b + k by omega]
theorem seg_mem {f : Nat → Int} {b n : Nat} {x : Int} : x ∈ seg f b n ↔ ∃ k, k < n ∧ x = f (b + k) := by
  simp only [seg, List.mem_map, List.mem_range]
  constructor
  · rintro ⟨k, h, rfl⟩; exact ⟨k, h, rfl⟩
  · rintro ⟨k, h, rfl⟩; exact ⟨k, h, rfl⟩
