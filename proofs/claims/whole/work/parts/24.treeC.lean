/-! THE CLASS'S TREE: nodes, by their numbers of entries -/
def tks (I : Mm) (B n : Nat) : List Int := seg (rd I (B + 6)) (5 * n) (rd I (B + 8) n).toNat
def tcs (I : Mm) (B n : Nat) : List Int := seg (rd I (B + 7)) (6 * n) ((rd I (B + 8) n).toNat + 1)
def szOK (I : Mm) (B : Nat) : Prop := ∀ m, m < 348 → 0 ≤ rd I (B + 8) m ∧ rd I (B + 8) m ≤ 5
theorem tks_congr {I I' : Mm} {B m : Nat} (h8 : rd I' (B + 8) m = rd I (B + 8) m) (hs : rd I (B + 8) m ≤ 5) (h6 : ∀ j, j < 5 → rd I' (B + 6) (5 * m + j) = rd I (B + 6) (5 * m + j)) : tks I' B m = tks I B m := by
  unfold tks
  rw [h8]
  exact seg_congr (fun k hk => h6 k (by omega))
theorem tcs_congr {I I' : Mm} {B m : Nat} (h8 : rd I' (B + 8) m = rd I (B + 8) m) (hs : rd I (B + 8) m ≤ 5) (h7 : ∀ j, j < 6 → rd I' (B + 7) (6 * m + j) = rd I (B + 7) (6 * m + j)) : tcs I' B m = tcs I B m := by
  unfold tcs
  rw [h8]
  exact seg_congr (fun k hk => h7 k (by omega))
/-- the nodes of a memory, but for one -/
def ndEq (I I' : Mm) (B : Nat) (P : Nat → Prop) : Prop := ∀ m, m < 348 → P m → tks I' B m = tks I B m ∧ tcs I' B m = tcs I B m ∧ rd I' (B + 8) m = rd I (B + 8) m
theorem wrn {x : Int} (n : Nat) (h : x = n) (hn : n < 2147483648) : wr x = n := by
  rw [h, wrx (by omega) (by omega)]
theorem inRn {n : Nat} (hn : n < 2147483648) : inR (n : Int) := ⟨by omega, by omega⟩
set_option maxHeartbeats 1000000 in
theorem c_putInto {B n k s : Nat} {ad kd : Int} {fa fb fc fd : Nat} {I : Mm} {K : Mm → Prop} (hB : isX B) (hn : n < 348) (hs : rd I (B + 8) n = s) (hs4 : s ≤ 4) (hk : k ≤ s) (had : inR ad) (hkd : inR kd) (hsz : szOK I B)
    (h : ∀ I' : Mm, (∀ a, a ≠ B + 6 → a ≠ B + 7 → a ≠ B + 8 → I' a = I a) → ndEq I I' B (fun m => m ≠ n) → rd I' (B + 8) n = s + 1 → tks I' B n = insL (tks I B n) k ad → tcs I' B n = insL (tcs I B n) (k + 1) kd → K I') : CallV 73 [.inr (2, B, 2), .inl (fa, (n : Int)), .inl (fb, (k : Int)), .inl (fc, ad), .inl (fd, kd)] I K := by
  refine callV_fl (as' := [.inr (2, B, 2), .inl (1, (n : Int)), .inl (1, (k : Int)), .inl (1, ad), .inl (1, kd)]) rfl ?_
  refine callV_of rfl (b_putInto hB (inRn (by omega)) (inRn (by omega)) had hkd ⟨⟨by omega, by omega⟩, ?_⟩)
  intro v5 e5 _ v6 e6 _ v7 e7 _
  rw [Int.toNat_natCast, hs, wrn (s - k) (by omega) (by omega)] at e5
  rw [wrn (5 * n + k) (by omega) (by omega)] at e6
  rw [wrn (6 * n + k + 1) (by omega) (by omega)] at e7
  subst e5; subst e6; subst e7
  rw [wrn (5 * n + k + 1) (by omega) (by omega), wrn (6 * n + k + 2) (by omega) (by omega)]
  simp only [Int.toNat_natCast]
  refine ⟨by omega, ?_⟩
  intro I1 e1
  refine ⟨by omega, ?_⟩
  intro I2 e2
  refine ⟨by omega, ?_⟩
  intro I3 e3
  refine ⟨by omega, ?_⟩
  intro I4 e4
  refine ⟨by omega, by omega, ?_⟩
  intro I5 e5
  have hz : rd I4 (B + 8) n = s := by
    rw [e4, rd_wt_a _ _ _ _ (by omega), e3, rd_wt_a _ _ _ _ (by omega), e2, rd_cp_a _ _ _ _ _ _ (by omega), e1, rd_cp_a _ _ _ _ _ _ (by omega), hs]
  rw [hz] at e5
  have q6 : ∀ x, rd I5 (B + 6) x = if x = 5 * n + k then ad else if 5 * n + k < x ∧ x < 5 * n + k + 1 + (s - k) then rd I (B + 6) (x - 1) else rd I (B + 6) x := by
    intro x
    rw [e5, rd_wt_a _ _ _ _ (by omega), e4, rd_wt_a _ _ _ _ (by omega), e3, rd_wt, if_pos rfl, wr_of had, e2, rd_cp_a _ _ _ _ _ _ (by omega), e1, rd_cp, if_pos rfl]
    by_cases c1 : x = 5 * n + k
    · rw [if_pos c1, if_pos c1]
    · rw [if_neg c1, if_neg c1]
      by_cases c2 : 5 * n + k + 1 ≤ x ∧ x < 5 * n + k + 1 + (s - k)
      · rw [if_pos c2, if_pos (by omega), show 5 * n + k + (x - (5 * n + k + 1)) = x - 1 by omega]
      · rw [if_neg c2, if_neg (by omega)]
  have q7 : ∀ x, rd I5 (B + 7) x = if x = 6 * n + k + 1 then kd else if 6 * n + k + 1 < x ∧ x < 6 * n + k + 2 + (s - k) then rd I (B + 7) (x - 1) else rd I (B + 7) x := by
    intro x
    rw [e5, rd_wt_a _ _ _ _ (by omega), e4, rd_wt, if_pos rfl, wr_of hkd, e3, rd_wt_a _ _ _ _ (by omega), e2, rd_cp, if_pos rfl, e1, rd_cp_a _ _ _ _ _ _ (by omega), rd_cp_a _ _ _ _ _ _ (by omega)]
    by_cases c1 : x = 6 * n + k + 1
    · rw [if_pos c1, if_pos c1]
    · rw [if_neg c1, if_neg c1]
      by_cases c2 : 6 * n + k + 2 ≤ x ∧ x < 6 * n + k + 2 + (s - k)
      · rw [if_pos c2, if_pos (by omega), show 6 * n + k + 1 + (x - (6 * n + k + 2)) = x - 1 by omega]
      · rw [if_neg c2, if_neg (by omega)]
  have q8 : ∀ x, rd I5 (B + 8) x = if x = n then (s : Int) + 1 else rd I (B + 8) x := by
    intro x
    rw [e5, rd_wt, if_pos rfl, wrx (by omega) (by omega)]
    by_cases c1 : x = n
    · rw [if_pos c1, if_pos c1]
    · rw [if_neg c1, if_neg c1, e4, rd_wt_a _ _ _ _ (by omega), e3, rd_wt_a _ _ _ _ (by omega), e2, rd_cp_a _ _ _ _ _ _ (by omega), e1, rd_cp_a _ _ _ _ _ _ (by omega)]
  refine h I5 ?_ ?_ ?_ ?_ ?_
  · intro a h6 h7 h8
    rw [e5, wt_a _ _ _ _ h8, e4, wt_a _ _ _ _ h7, e3, wt_a _ _ _ _ h6, e2, cp_a _ _ _ _ _ _ h7, e1, cp_a _ _ _ _ _ _ h6]
  · intro m hm hmn
    have h8 : rd I5 (B + 8) m = rd I (B + 8) m := by rw [q8, if_neg hmn]
    have hb := hsz m hm
    refine ⟨tks_congr h8 hb.2 (fun j hj => ?_), tcs_congr h8 hb.2 (fun j hj => ?_), h8⟩
    · rw [q6, if_neg (by omega), if_neg (by omega)]
    · rw [q7, if_neg (by omega), if_neg (by omega)]
  · rw [q8, if_pos rfl]
  · unfold tks
    rw [q8, if_pos rfl, hs, show ((s : Int) + 1).toNat = s + 1 by omega, Int.toNat_natCast]
    refine seg_ins hk ?_ ?_ ?_
    · intro j hj
      rw [q6, if_neg (by omega), if_neg (by omega)]
    · rw [q6, if_pos rfl]
    · intro j h1 h2
      rw [q6, if_neg (by omega), if_pos (by omega), show 5 * n + (j + 1) - 1 = 5 * n + j by omega]
  · unfold tcs
    rw [q8, if_pos rfl, hs, show ((s : Int) + 1).toNat + 1 = (s + 1) + 1 by omega, Int.toNat_natCast]
    refine seg_ins (by omega) ?_ ?_ ?_
    · intro j hj
      rw [q7, if_neg (by omega), if_neg (by omega)]
    · rw [show 6 * n + (k + 1) = 6 * n + k + 1 by omega, q7, if_pos rfl]
    · intro j h1 h2
      rw [q7, if_neg (by omega), if_pos (by omega), show 6 * n + (j + 1) - 1 = 6 * n + j by omega]
set_option maxHeartbeats 1000000 in
theorem c_takeOut {B n k s : Nat} {fa fb : Nat} {I : Mm} {K : Mm → Prop} (hB : isX B) (hn : n < 348) (hs : rd I (B + 8) n = s) (hs4 : s ≤ 5) (hk : k < s) (hsz : szOK I B)
    (h : ∀ I' : Mm, (∀ a, a ≠ B + 6 → a ≠ B + 7 → a ≠ B + 8 → I' a = I a) → ndEq I I' B (fun m => m ≠ n) → rd I' (B + 8) n = s - 1 → tks I' B n = remL (tks I B n) k → tcs I' B n = remL (tcs I B n) (k + 1) → K I') : CallV 74 [.inr (2, B, 2), .inl (fa, (n : Int)), .inl (fb, (k : Int))] I K := by
  refine callV_fl (as' := [.inr (2, B, 2), .inl (1, (n : Int)), .inl (1, (k : Int))]) rfl ?_
  refine callV_of rfl (b_takeOut hB (inRn (by omega)) (inRn (by omega)) ⟨⟨by omega, by omega⟩, ?_⟩)
  intro v5 e5 _ v6 e6 _ v7 e7 _
  rw [Int.toNat_natCast, hs, wrn (s - k - 1) (by omega) (by omega)] at e5
  rw [wrn (5 * n + k) (by omega) (by omega)] at e6
  rw [wrn (6 * n + k + 1) (by omega) (by omega)] at e7
  subst e5; subst e6; subst e7
  rw [wrn (5 * n + k + 1) (by omega) (by omega), wrn (6 * n + k + 2) (by omega) (by omega)]
  simp only [Int.toNat_natCast]
  refine ⟨by omega, ?_⟩
  intro I1 e1
  refine ⟨by omega, ?_⟩
  intro I2 e2
  refine ⟨by omega, by omega, ?_⟩
  intro I5 e5
  have hz : rd I2 (B + 8) n = s := by
    rw [e2, rd_cp_a _ _ _ _ _ _ (by omega), e1, rd_cp_a _ _ _ _ _ _ (by omega), hs]
  rw [hz] at e5
  have q6 : ∀ x, rd I5 (B + 6) x = if 5 * n + k ≤ x ∧ x < 5 * n + k + (s - k - 1) then rd I (B + 6) (x + 1) else rd I (B + 6) x := by
    intro x
    rw [e5, rd_wt_a _ _ _ _ (by omega), e2, rd_cp_a _ _ _ _ _ _ (by omega), e1, rd_cp, if_pos rfl]
    by_cases c2 : 5 * n + k ≤ x ∧ x < 5 * n + k + (s - k - 1)
    · rw [if_pos c2, if_pos c2, show 5 * n + k + 1 + (x - (5 * n + k)) = x + 1 by omega]
    · rw [if_neg c2, if_neg c2]
  have q7 : ∀ x, rd I5 (B + 7) x = if 6 * n + k + 1 ≤ x ∧ x < 6 * n + k + 1 + (s - k - 1) then rd I (B + 7) (x + 1) else rd I (B + 7) x := by
    intro x
    rw [e5, rd_wt_a _ _ _ _ (by omega), e2, rd_cp, if_pos rfl, e1, rd_cp_a _ _ _ _ _ _ (by omega), rd_cp_a _ _ _ _ _ _ (by omega)]
    by_cases c2 : 6 * n + k + 1 ≤ x ∧ x < 6 * n + k + 1 + (s - k - 1)
    · rw [if_pos c2, if_pos c2, show 6 * n + k + 2 + (x - (6 * n + k + 1)) = x + 1 by omega]
    · rw [if_neg c2, if_neg c2]
  have q8 : ∀ x, rd I5 (B + 8) x = if x = n then (s : Int) - 1 else rd I (B + 8) x := by
    intro x
    rw [e5, rd_wt, if_pos rfl, wrx (by omega) (by omega)]
    by_cases c1 : x = n
    · rw [if_pos c1, if_pos c1]
    · rw [if_neg c1, if_neg c1, e2, rd_cp_a _ _ _ _ _ _ (by omega), e1, rd_cp_a _ _ _ _ _ _ (by omega)]
  refine h I5 ?_ ?_ ?_ ?_ ?_
  · intro a h6 h7 h8
    rw [e5, wt_a _ _ _ _ h8, e2, cp_a _ _ _ _ _ _ h7, e1, cp_a _ _ _ _ _ _ h6]
  · intro m hm hmn
    have h8 : rd I5 (B + 8) m = rd I (B + 8) m := by rw [q8, if_neg hmn]
    have hb := hsz m hm
    refine ⟨tks_congr h8 hb.2 (fun j hj => ?_), tcs_congr h8 hb.2 (fun j hj => ?_), h8⟩
    · rw [q6, if_neg (by omega)]
    · rw [q7, if_neg (by omega)]
  · rw [q8, if_pos rfl]
  · unfold tks
    rw [q8, if_pos rfl, hs, show ((s : Int) - 1).toNat = s - 1 by omega, Int.toNat_natCast]
    refine seg_rem hk ?_ ?_
    · intro j hj
      rw [q6, if_neg (by omega)]
    · intro j h1 h2
      rw [q6, if_pos (by omega), show 5 * n + j + 1 = 5 * n + (j + 1) by omega]
  · unfold tcs
    rw [q8, if_pos rfl, hs, show ((s : Int) - 1).toNat + 1 = (s + 1) - 1 by omega, Int.toNat_natCast]
    refine seg_rem (by omega) ?_ ?_
    · intro j hj
      rw [q7, if_neg (by omega)]
    · intro j h1 h2
      rw [q7, if_pos (by omega), show 6 * n + j + 1 = 6 * n + (j + 1) by omega]
set_option maxHeartbeats 1000000 in
theorem c_halve {B n r : Nat} {fa fb : Nat} {I : Mm} {K : Mm → Prop} (hB : isX B) (hn : n < 348) (hr : r < 348) (hnr : n ≠ r) (hs : rd I (B + 8) n = 5) (hsz : szOK I B)
    (h : ∀ I' : Mm, (∀ a, a ≠ B + 6 → a ≠ B + 7 → a ≠ B + 8 → I' a = I a) → ndEq I I' B (fun m => m ≠ n ∧ m ≠ r) → rd I' (B + 8) n = 2 → rd I' (B + 8) r = 2 → tks I' B n = (tks I B n).take 2 → tcs I' B n = (tcs I B n).take 3 → tks I' B r = (tks I B n).drop 3 → tcs I' B r = (tcs I B n).drop 3 → K I') : CallV 76 [.inr (2, B, 2), .inl (fa, (n : Int)), .inl (fb, (r : Int))] I K := by
  refine callV_fl (as' := [.inr (2, B, 2), .inl (1, (n : Int)), .inl (1, (r : Int))]) rfl ?_
  refine callV_of rfl (b_halve hB (inRn (by omega)) (inRn (by omega)) ?_)
  rw [wrn (5 * n + 3) (by omega) (by omega), wrn (5 * r) (by omega) (by omega), wrn (6 * n + 3) (by omega) (by omega), wrn (6 * r) (by omega) (by omega)]
  simp only [Int.toNat_natCast]
  refine ⟨by omega, ?_⟩
  intro I1 e1
  refine ⟨by omega, ?_⟩
  intro I2 e2
  refine ⟨by omega, ?_⟩
  intro I3 e3
  refine ⟨by omega, ?_⟩
  intro I5 e5
  have q6 : ∀ x, rd I5 (B + 6) x = if 5 * r ≤ x ∧ x < 5 * r + 2 then rd I (B + 6) (5 * n + 3 + (x - 5 * r)) else rd I (B + 6) x := by
    intro x
    rw [e5, rd_wt_a _ _ _ _ (by omega), e3, rd_wt_a _ _ _ _ (by omega), e2, rd_cp_a _ _ _ _ _ _ (by omega), e1, rd_cp, if_pos rfl]
  have q7 : ∀ x, rd I5 (B + 7) x = if 6 * r ≤ x ∧ x < 6 * r + 3 then rd I (B + 7) (6 * n + 3 + (x - 6 * r)) else rd I (B + 7) x := by
    intro x
    rw [e5, rd_wt_a _ _ _ _ (by omega), e3, rd_wt_a _ _ _ _ (by omega), e2, rd_cp, if_pos rfl, e1, rd_cp_a _ _ _ _ _ _ (by omega), rd_cp_a _ _ _ _ _ _ (by omega)]
  have q8 : ∀ x, rd I5 (B + 8) x = if x = n then 2 else if x = r then 2 else rd I (B + 8) x := by
    intro x
    rw [e5, rd_wt, if_pos rfl, wrx (by omega) (by omega), e3, rd_wt, if_pos rfl, wrx (by omega) (by omega), e2, rd_cp_a _ _ _ _ _ _ (by omega), e1, rd_cp_a _ _ _ _ _ _ (by omega)]
  refine h I5 ?_ ?_ ?_ ?_ ?_ ?_ ?_ ?_
  · intro a h6 h7 h8
    rw [e5, wt_a _ _ _ _ h8, e3, wt_a _ _ _ _ h8, e2, cp_a _ _ _ _ _ _ h7, e1, cp_a _ _ _ _ _ _ h6]
  · intro m hm hmn
    have h8 : rd I5 (B + 8) m = rd I (B + 8) m := by rw [q8, if_neg hmn.1, if_neg hmn.2]
    have hb := hsz m hm
    have := hmn.2
    refine ⟨tks_congr h8 hb.2 (fun j hj => ?_), tcs_congr h8 hb.2 (fun j hj => ?_), h8⟩
    · rw [q6, if_neg (by omega)]
    · rw [q7, if_neg (by omega)]
  · rw [q8, if_pos rfl]
  · rw [q8, if_neg (Ne.symm hnr), if_pos rfl]
  · unfold tks
    rw [q8, if_pos rfl, hs]
    show seg (rd I5 (B + 6)) (5 * n) 2 = (seg (rd I (B + 6)) (5 * n) 5).take 2
    refine seg_ext (by simp [seg_len]) (fun j hj => ?_)
    have hj : j < 2 := hj
    rw [List.getElem?_take_of_lt hj, seg_get _ _ (show j < 5 by omega), q6, if_neg (by omega)]
  · unfold tcs
    rw [q8, if_pos rfl, hs]
    show seg (rd I5 (B + 7)) (6 * n) 3 = (seg (rd I (B + 7)) (6 * n) 6).take 3
    refine seg_ext (by simp [seg_len]) (fun j hj => ?_)
    have hj : j < 3 := hj
    rw [List.getElem?_take_of_lt hj, seg_get _ _ (show j < 6 by omega), q7, if_neg (by omega)]
  · unfold tks
    rw [q8, if_neg (Ne.symm hnr), if_pos rfl, hs]
    show seg (rd I5 (B + 6)) (5 * r) 2 = (seg (rd I (B + 6)) (5 * n) 5).drop 3
    refine seg_ext (by simp [seg_len]) (fun j hj => ?_)
    have hj : j < 2 := hj
    rw [List.getElem?_drop, seg_get _ _ (show 3 + j < 5 by omega), q6, if_pos (by omega), show 5 * n + 3 + (5 * r + j - 5 * r) = 5 * n + (3 + j) by omega]
  · unfold tcs
    rw [q8, if_neg (Ne.symm hnr), if_pos rfl, hs]
    show seg (rd I5 (B + 7)) (6 * r) 3 = (seg (rd I (B + 7)) (6 * n) 6).drop 3
    refine seg_ext (by simp [seg_len]) (fun j hj => ?_)
    have hj : j < 3 := hj
    rw [List.getElem?_drop, seg_get _ _ (show 3 + j < 6 by omega), q7, if_pos (by omega), show 6 * n + 3 + (6 * r + j - 6 * r) = 6 * n + (3 + j) by omega]
/-- the free nodes, the last of them first to be taken -/
def spn (I : Mm) (B : Nat) : List Int := seg (rd I (B + 9)) 0 (rd I (B + 2) 7).toNat
set_option maxHeartbeats 1000000 in
theorem c_takeNode {B c r : Nat} {I : Mm} {K : Int → Mm → Prop} (hB : isX B) (hc : rd I (B + 2) 7 = c + 1) (hc2 : c < 348) (hr : rd I (B + 9) c = r) (hr2 : r < 348) (hsz : szOK I B)
    (h : ∀ I' : Mm, (∀ a, a ≠ B + 2 → a ≠ B + 7 → a ≠ B + 8 → I' a = I a) → (∀ k, k ≠ 7 → rd I' (B + 2) k = rd I (B + 2) k) → rd I' (B + 2) 7 = c → ndEq I I' B (fun m => m ≠ r) → rd I' (B + 8) r = 0 → tks I' B r = [] → tcs I' B r = [-1] → K r I') : CallZ 69 [.inr (2, B, 2)] I K := by
  have loop : ∀ (d k : Nat) (J : Mm), k + d = 6 → (∀ j, j < k → rd J (B + 7) (6 * r + j) = -1) → (∀ x, (x < 6 * r ∨ 6 * r + 6 ≤ x) → rd J (B + 7) x = rd I (B + 7) x) → (∀ a, a ≠ B + 2 → a ≠ B + 7 → a ≠ B + 8 → J a = I a) → (∀ k, k ≠ 7 → rd J (B + 2) k = rd I (B + 2) k) → rd J (B + 2) 7 = c → (∀ x, rd J (B + 8) x = if x = r then 0 else rd I (B + 8) x) → rd J (B + 6) = rd I (B + 6) → GoA 69 29 [some (.inr (2, B, 2)), some (.inl (1, (r : Int))), some (.inl (1, (k : Int)))] [] J (rZ K) := by
    intro d
    induction d with
    | zero =>
      intro k J hk p1 p2 p3 p4 p5 p6 p7
      refine b_takeNode_29 hB (inRn (by omega)) (inRn (by omega)) ⟨fun _ => ?_, fun z => absurd (by omega) z⟩
      have q70 : rd J (B + 7) (6 * r) = -1 := p1 0 (by omega)
      refine h J p3 p4 p5 ?_ ?_ ?_ ?_
      · intro m hm hmr
        have h8 : rd J (B + 8) m = rd I (B + 8) m := by rw [p6, if_neg hmr]
        have hb := hsz m hm
        refine ⟨tks_congr h8 hb.2 (fun j hj => by rw [p7]), tcs_congr h8 hb.2 (fun j hj => p2 _ (by omega)), h8⟩
      · rw [p6, if_pos rfl]
      · unfold tks
        rw [p6, if_pos rfl]
        rfl
      · unfold tcs
        rw [p6, if_pos rfl]
        show [rd J (B + 7) (6 * r + 0)] = _
        rw [p1 0 (by omega)]
    | succ d ih =>
      intro k J hk p1 p2 p3 p4 p5 p6 p7
      refine b_takeNode_29 hB (inRn (by omega)) (inRn (by omega)) ⟨fun z => absurd z (by omega), fun _ => ?_⟩
      rw [wrn (6 * r + k) (by omega) (by omega)]
      simp only [Int.toNat_natCast]
      refine ⟨by omega, ?_⟩
      intro J1 e1 v e2 _
      rw [wrn (k + 1) (by omega) (by omega)] at e2
      subst e2
      have q : ∀ x, rd J1 (B + 7) x = if x = 6 * r + k then -1 else rd J (B + 7) x := by
        intro x
        rw [e1, rd_wt, if_pos rfl, wrx (by omega) (by omega)]
      refine ih (k + 1) J1 (by omega) ?_ ?_ ?_ ?_ ?_ ?_ ?_
      · intro j hj
        rw [q]
        split
        · rfl
        · exact p1 j (by omega)
      · intro x hx
        rw [q, if_neg (by omega), p2 x hx]
      · intro a a2 a7 a8
        rw [e1, wt_a _ _ _ _ a7, p3 a a2 a7 a8]
      · intro k hk
        rw [e1, rd_wt_a _ _ _ _ (by omega), p4 k hk]
      · rw [e1, rd_wt_a _ _ _ _ (by omega), p5]
      · intro x
        rw [e1, rd_wt_a _ _ _ _ (by omega), p6]
      · funext x
        rw [e1, rd_wt_a _ _ _ _ (by omega), p7]
  refine callZ_of rfl (b_takeNode hB ?_)
  intro I1 e1
  have k1 : rd I1 (B + 2) 7 = c := by rw [e1, rd_wt, if_pos rfl, if_pos rfl, hc, wrx (by omega) (by omega)]; omega
  have k2 : rd I1 (B + 9) c = r := by rw [e1, rd_wt_a _ _ _ _ (by omega), hr]
  rw [k1, Int.toNat_natCast, k2]
  refine ⟨by omega, ?_⟩
  intro v ev _
  subst ev
  refine ⟨by omega, ?_⟩
  intro I2 e2
  rw [Int.toNat_natCast] at e2
  refine loop 6 0 I2 rfl ?_ ?_ ?_ ?_ ?_ ?_ ?_
  · intro j hj; omega
  · intro x hx
    rw [e2, rd_wt_a _ _ _ _ (by omega), e1, rd_wt_a _ _ _ _ (by omega)]
  · intro a a2 a7 a8
    rw [e2, wt_a _ _ _ _ a8, e1, wt_a _ _ _ _ a2]
  · intro k hk
    rw [e2, rd_wt_a _ _ _ _ (by omega), e1, rd_wt_k _ _ _ _ hk]
  · rw [e2, rd_wt_a _ _ _ _ (by omega), k1]
  · intro x
    rw [e2, rd_wt, if_pos rfl, wrx (by omega) (by omega), e1, rd_wt_a _ _ _ _ (by omega)]
  · funext x
    rw [e2, rd_wt_a _ _ _ _ (by omega), e1, rd_wt_a _ _ _ _ (by omega)]
