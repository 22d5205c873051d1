/-! moving between neighbours -/
theorem seg_dl {f f' : Nat → Int} {b n : Nat} (hn : 0 < n) (h : ∀ j, j + 1 < n → f' (b + j) = f (b + j)) : seg f' b (n - 1) = (seg f b n).dropLast := by
  obtain ⟨m, rfl⟩ : ∃ m, n = m + 1 := ⟨n - 1, by omega⟩
  rw [seg_succ, List.dropLast_concat, show m + 1 - 1 = m by omega]
  exact seg_congr (fun k hk => h k (by omega))
theorem seg_tl {f f' : Nat → Int} {b n : Nat} (hn : 0 < n) (h : ∀ j, j + 1 < n → f' (b + j) = f (b + (j + 1))) : seg f' b (n - 1) = (seg f b n).tail := by
  obtain ⟨m, rfl⟩ : ∃ m, n = m + 1 := ⟨n - 1, by omega⟩
  rw [seg_cons, List.tail_cons, show m + 1 - 1 = m by omega]
  exact seg_congr (fun k hk => by rw [h k (by omega), show b + (k + 1) = b + 1 + k by omega])
theorem seg_cn {f f' : Nat → Int} {b n : Nat} {x : Int} (h0 : f' b = x) (h : ∀ j, j < n → f' (b + (j + 1)) = f (b + j)) : seg f' b (n + 1) = x :: seg f b n := by
  rw [seg_cons, h0]
  congr 1
  exact seg_congr (fun k hk => by rw [show b + 1 + k = b + (k + 1) by omega, h k hk])
theorem seg_sn {f f' : Nat → Int} {b n : Nat} {x : Int} (h0 : f' (b + n) = x) (h : ∀ j, j < n → f' (b + j) = f (b + j)) : seg f' b (n + 1) = seg f b n ++ [x] := by
  rw [seg_succ, h0]
  congr 1
  exact seg_congr h
set_option maxHeartbeats 2000000 in
theorem c_tfl {B a k l n sa ls s : Nat} {fa fb : Nat} {I : Mm} {K : Mm → Prop} (hB : isX B) (ha : a < 348) (hl : l < 348) (hn : n < 348) (hal : a ≠ l) (han : a ≠ n) (hln : l ≠ n) (hk : 1 ≤ k) (hk2 : k ≤ sa) (hsa : rd I (B + 8) a = sa) (hsa5 : sa ≤ 5) (hcl : rd I (B + 7) (6 * a + (k - 1)) = l) (hcn : rd I (B + 7) (6 * a + k) = n) (hls : rd I (B + 8) l = ls) (hls1 : 1 ≤ ls) (hls5 : ls ≤ 5) (hs : rd I (B + 8) n = s) (hs4 : s ≤ 4) (hsz : szOK I B)
    (h : ∀ I' : Mm, (∀ x, x ≠ B + 6 → x ≠ B + 7 → x ≠ B + 8 → I' x = I x) → ndEq I I' B (fun m => m ≠ a ∧ m ≠ l ∧ m ≠ n) → rd I' (B + 8) a = sa → rd I' (B + 8) l = ls - 1 → rd I' (B + 8) n = s + 1 → tks I' B a = (tks I B a).set (k - 1) (rd I (B + 6) (5 * l + (ls - 1))) → tcs I' B a = tcs I B a → tks I' B l = (tks I B l).dropLast → tcs I' B l = (tcs I B l).dropLast → tks I' B n = rd I (B + 6) (5 * a + (k - 1)) :: tks I B n → tcs I' B n = rd I (B + 7) (6 * l + ls) :: tcs I B n → K I') : CallV 78 [.inr (2, B, 2), .inl (fa, (a : Int)), .inl (fb, (k : Int))] I K := by
  refine callV_fl (as' := [.inr (2, B, 2), .inl (1, (a : Int)), .inl (1, (k : Int))]) rfl ?_
  refine callV_of rfl (b_tfl hB (inRn (by omega)) (inRn (by omega)) ?_)
  rw [wrn (6 * a + (k - 1)) (by omega) (by omega), wrn (6 * a + k) (by omega) (by omega), wrn (5 * a + (k - 1)) (by omega) (by omega)]
  simp only [Int.toNat_natCast]
  refine ⟨by omega, ?_⟩
  intro v3 e3 _
  rw [hcl] at e3
  refine ⟨by omega, ?_⟩
  intro v4 e4 _
  rw [hcn] at e4
  subst e3; subst e4
  intro v5 e5 _
  subst e5
  simp only [Int.toNat_natCast]
  rw [wrn (5 * n) (by omega) (by omega), wrn (5 * n + 1) (by omega) (by omega), wrn (6 * n) (by omega) (by omega), wrn (6 * n + 1) (by omega) (by omega), hs]
  simp only [Int.toNat_natCast]
  refine ⟨by omega, by omega, ?_⟩
  intro I1 e1
  have h1 : rd I1 (B + 8) n = s := by rw [e1, rd_cp_a _ _ _ _ _ _ (by omega), hs]
  rw [h1, wrn (s + 1) (by omega) (by omega)]
  simp only [Int.toNat_natCast]
  refine ⟨by omega, by omega, ?_⟩
  intro I2 e2
  refine ⟨by omega, by omega, ?_⟩
  intro I3 e3
  have h3 : rd I3 (B + 8) l = ls := by rw [e3, rd_wt_a _ _ _ _ (by omega), e2, rd_cp_a _ _ _ _ _ _ (by omega), e1, rd_cp_a _ _ _ _ _ _ (by omega), hls]
  rw [h3, wrn (6 * l + ls) (by omega) (by omega)]
  simp only [Int.toNat_natCast]
  refine ⟨by omega, by omega, by omega, ?_⟩
  intro I4 e4
  have h4 : rd I4 (B + 8) n = s := by rw [e4, rd_wt_a _ _ _ _ (by omega), e3, rd_wt_a _ _ _ _ (by omega), e2, rd_cp_a _ _ _ _ _ _ (by omega), h1]
  rw [h4]
  refine ⟨by omega, by omega, ?_⟩
  intro I5 e5
  have h5 : rd I5 (B + 8) l = ls := by rw [e5, rd_wt_k _ _ _ _ hln, e4, rd_wt_a _ _ _ _ (by omega), h3]
  rw [h5]
  refine ⟨by omega, by omega, ?_⟩
  intro I6 e6
  have h6 : rd I6 (B + 8) l = ls - 1 := by rw [e6, rd_wt_s _ _ _ (inRx (by omega) (by omega))]
  rw [h6, wrn (5 * l + (ls - 1)) (by omega) (by omega)]
  simp only [Int.toNat_natCast]
  refine ⟨by omega, by omega, by omega, ?_⟩
  intro I7 e7
  have f2 : ∀ x, rd I2 (B + 6) x = if 5 * n + 1 ≤ x ∧ x < 5 * n + 1 + s then rd I (B + 6) (x - 1) else rd I (B + 6) x := by
    intro x
    rw [e2, rd_cp_a _ _ _ _ _ _ (by omega), e1, rd_cp, if_pos rfl]
    by_cases c : 5 * n + 1 ≤ x ∧ x < 5 * n + 1 + s
    · rw [if_pos c, if_pos c, show 5 * n + (x - (5 * n + 1)) = x - 1 by omega]
    · rw [if_neg c, if_neg c]
  have f2a : rd I2 (B + 6) (5 * a + (k - 1)) = rd I (B + 6) (5 * a + (k - 1)) := by rw [f2, if_neg (by omega)]
  have f6 : ∀ x, rd I6 (B + 6) x = if x = 5 * n then rd I (B + 6) (5 * a + (k - 1)) else rd I2 (B + 6) x := by
    intro x
    rw [e6, rd_wt_a _ _ _ _ (by omega), e5, rd_wt_a _ _ _ _ (by omega), e4, rd_wt_a _ _ _ _ (by omega), e3, rd_wt, if_pos rfl, wr_rd, f2a]
  have f6l : rd I6 (B + 6) (5 * l + (ls - 1)) = rd I (B + 6) (5 * l + (ls - 1)) := by rw [f6, if_neg (by omega), f2, if_neg (by omega)]
  have q6 : ∀ x, rd I7 (B + 6) x = if x = 5 * a + (k - 1) then rd I (B + 6) (5 * l + (ls - 1)) else if x = 5 * n then rd I (B + 6) (5 * a + (k - 1)) else if 5 * n + 1 ≤ x ∧ x < 5 * n + 1 + s then rd I (B + 6) (x - 1) else rd I (B + 6) x := by
    intro x
    rw [e7, rd_wt, if_pos rfl, wr_rd, f6l, f6, f2]
  have g2 : ∀ x, rd I2 (B + 7) x = if 6 * n + 1 ≤ x ∧ x < 6 * n + 1 + (s + 1) then rd I (B + 7) (x - 1) else rd I (B + 7) x := by
    intro x
    rw [e2, rd_cp, if_pos rfl, e1, rd_cp_a _ _ _ _ _ _ (by omega), rd_cp_a _ _ _ _ _ _ (by omega)]
    by_cases c : 6 * n + 1 ≤ x ∧ x < 6 * n + 1 + (s + 1)
    · rw [if_pos c, if_pos c, show 6 * n + (x - (6 * n + 1)) = x - 1 by omega]
    · rw [if_neg c, if_neg c]
  have g2l : rd I2 (B + 7) (6 * l + ls) = rd I (B + 7) (6 * l + ls) := by rw [g2, if_neg (by omega)]
  have q7 : ∀ x, rd I7 (B + 7) x = if x = 6 * n then rd I (B + 7) (6 * l + ls) else if 6 * n + 1 ≤ x ∧ x < 6 * n + 1 + (s + 1) then rd I (B + 7) (x - 1) else rd I (B + 7) x := by
    intro x
    rw [e7, rd_wt_a _ _ _ _ (by omega), e6, rd_wt_a _ _ _ _ (by omega), e5, rd_wt_a _ _ _ _ (by omega), e4, rd_wt, if_pos rfl, wr_rd, e3, rd_wt_a _ _ _ _ (by omega), rd_wt_a _ _ _ _ (by omega), g2l, g2]
  have q8 : ∀ x, rd I7 (B + 8) x = if x = l then (ls : Int) - 1 else if x = n then (s : Int) + 1 else rd I (B + 8) x := by
    intro x
    rw [e7, rd_wt_a _ _ _ _ (by omega), e6, rd_wt, if_pos rfl, wrx (by omega) (by omega), e5, rd_wt, if_pos rfl, wrx (by omega) (by omega), e4, rd_wt_a _ _ _ _ (by omega), e3, rd_wt_a _ _ _ _ (by omega), e2, rd_cp_a _ _ _ _ _ _ (by omega), e1, rd_cp_a _ _ _ _ _ _ (by omega)]
  refine h I7 ?_ ?_ ?_ ?_ ?_ ?_ ?_ ?_ ?_ ?_ ?_
  · intro x x6 x7 x8
    rw [e7, wt_a _ _ _ _ x6, e6, wt_a _ _ _ _ x8, e5, wt_a _ _ _ _ x8, e4, wt_a _ _ _ _ x7, e3, wt_a _ _ _ _ x6, e2, cp_a _ _ _ _ _ _ x7, e1, cp_a _ _ _ _ _ _ x6]
  · rintro m hm ⟨c1, c2, c3⟩
    have h8 : rd I7 (B + 8) m = rd I (B + 8) m := by rw [q8, if_neg c2, if_neg c3]
    have hb := hsz m hm
    refine ⟨tks_congr h8 hb.2 (fun j hj => ?_), tcs_congr h8 hb.2 (fun j hj => ?_), h8⟩
    · rw [q6, if_neg (by omega), if_neg (by omega), if_neg (by omega)]
    · rw [q7, if_neg (by omega), if_neg (by omega)]
  · rw [q8, if_neg hal, if_neg han, hsa]
  · rw [q8, if_pos rfl]
  · rw [q8, if_neg (Ne.symm hln), if_pos rfl]
  · unfold tks
    rw [q8, if_neg hal, if_neg han, hsa, Int.toNat_natCast]
    refine seg_set (by omega) (fun j hj hjk => ?_) ?_
    · rw [q6, if_neg (by omega), if_neg (by omega), if_neg (by omega)]
    · rw [q6, if_pos rfl]
  · refine tcs_congr (by rw [q8, if_neg hal, if_neg han]) (by rw [hsa]; omega) (fun j hj => ?_)
    rw [q7, if_neg (by omega), if_neg (by omega)]
  · unfold tks
    rw [q8, if_pos rfl, hls, show ((ls : Int) - 1).toNat = ls - 1 by omega, Int.toNat_natCast]
    refine seg_dl (by omega) (fun j hj => ?_)
    rw [q6, if_neg (by omega), if_neg (by omega), if_neg (by omega)]
  · unfold tcs
    rw [q8, if_pos rfl, hls, show ((ls : Int) - 1).toNat + 1 = (ls + 1) - 1 by omega, Int.toNat_natCast]
    refine seg_dl (by omega) (fun j hj => ?_)
    rw [q7, if_neg (by omega), if_neg (by omega)]
  · unfold tks
    rw [q8, if_neg (Ne.symm hln), if_pos rfl, hs, show ((s : Int) + 1).toNat = s + 1 by omega, Int.toNat_natCast]
    refine seg_cn ?_ (fun j hj => ?_)
    · rw [q6, if_neg (by omega), if_pos rfl]
    · rw [q6, if_neg (by omega), if_neg (by omega), if_pos (by omega), show 5 * n + (j + 1) - 1 = 5 * n + j by omega]
  · unfold tcs
    rw [q8, if_neg (Ne.symm hln), if_pos rfl, hs, show ((s : Int) + 1).toNat + 1 = (s + 1) + 1 by omega, Int.toNat_natCast]
    refine seg_cn ?_ (fun j hj => ?_)
    · rw [q7, if_pos rfl]
    · rw [q7, if_neg (by omega), if_pos (by omega), show 6 * n + (j + 1) - 1 = 6 * n + j by omega]
set_option maxHeartbeats 2000000 in
theorem c_tfr {B a k n r sa s rs : Nat} {fa fb : Nat} {I : Mm} {K : Mm → Prop} (hB : isX B) (ha : a < 348) (hn : n < 348) (hr : r < 348) (han : a ≠ n) (har : a ≠ r) (hnr : n ≠ r) (hk2 : k < sa) (hsa : rd I (B + 8) a = sa) (hsa5 : sa ≤ 5) (hcn : rd I (B + 7) (6 * a + k) = n) (hcr : rd I (B + 7) (6 * a + (k + 1)) = r) (hrs : rd I (B + 8) r = rs) (hrs1 : 1 ≤ rs) (hrs5 : rs ≤ 5) (hs : rd I (B + 8) n = s) (hs4 : s ≤ 4) (hsz : szOK I B)
    (h : ∀ I' : Mm, (∀ x, x ≠ B + 6 → x ≠ B + 7 → x ≠ B + 8 → I' x = I x) → ndEq I I' B (fun m => m ≠ a ∧ m ≠ n ∧ m ≠ r) → rd I' (B + 8) a = sa → rd I' (B + 8) n = s + 1 → rd I' (B + 8) r = rs - 1 → tks I' B a = (tks I B a).set k (rd I (B + 6) (5 * r)) → tcs I' B a = tcs I B a → tks I' B r = (tks I B r).tail → tcs I' B r = (tcs I B r).tail → tks I' B n = tks I B n ++ [rd I (B + 6) (5 * a + k)] → tcs I' B n = tcs I B n ++ [rd I (B + 7) (6 * r)] → K I') : CallV 79 [.inr (2, B, 2), .inl (fa, (a : Int)), .inl (fb, (k : Int))] I K := by
  refine callV_fl (as' := [.inr (2, B, 2), .inl (1, (a : Int)), .inl (1, (k : Int))]) rfl ?_
  refine callV_of rfl (b_tfr hB (inRn (by omega)) (inRn (by omega)) ?_)
  rw [wrn (6 * a + k) (by omega) (by omega), wrn (6 * a + (k + 1)) (by omega) (by omega), wrn (5 * a + k) (by omega) (by omega)]
  simp only [Int.toNat_natCast]
  refine ⟨by omega, ?_⟩
  intro v3 e3 _
  rw [hcn] at e3
  refine ⟨by omega, ?_⟩
  intro v4 e4 _
  rw [hcr] at e4
  subst e3; subst e4
  intro v5 e5 _
  subst e5
  simp only [Int.toNat_natCast]
  rw [hs, wrn (5 * n + s) (by omega) (by omega), wrn (6 * r) (by omega) (by omega), wrn (5 * r) (by omega) (by omega), wrn (5 * r + 1) (by omega) (by omega), wrn (6 * r + 1) (by omega) (by omega)]
  simp only [Int.toNat_natCast]
  refine ⟨by omega, by omega, by omega, ?_⟩
  intro I1 e1
  have h1 : rd I1 (B + 8) n = s := by rw [e1, rd_wt_a _ _ _ _ (by omega), hs]
  rw [h1]
  refine ⟨by omega, by omega, ?_⟩
  intro I2 e2
  have h2 : rd I2 (B + 8) n = s + 1 := by rw [e2, rd_wt_s _ _ _ (inRx (by omega) (by omega))]
  rw [h2, wrn (6 * n + (s + 1)) (by omega) (by omega)]
  simp only [Int.toNat_natCast]
  refine ⟨by omega, by omega, by omega, ?_⟩
  intro I3 e3
  refine ⟨by omega, by omega, ?_⟩
  intro I4 e4
  have h4 : rd I4 (B + 8) r = rs := by rw [e4, rd_wt_a _ _ _ _ (by omega), e3, rd_wt_a _ _ _ _ (by omega), e2, rd_wt_k _ _ _ _ (Ne.symm hnr), e1, rd_wt_a _ _ _ _ (by omega), hrs]
  rw [h4]
  refine ⟨by omega, by omega, ?_⟩
  intro I5 e5
  have h5 : rd I5 (B + 8) r = (rs - 1 : Nat) := by rw [e5, rd_wt_s _ _ _ (inRx (by omega) (by omega))]; omega
  rw [h5]
  simp only [Int.toNat_natCast]
  refine ⟨by omega, by omega, ?_⟩
  intro I6 e6
  have h6 : rd I6 (B + 8) r = (rs - 1 : Nat) := by rw [e6, rd_cp_a _ _ _ _ _ _ (by omega), h5]
  rw [h6, wrn rs (by omega) (by omega)]
  simp only [Int.toNat_natCast]
  refine ⟨by omega, by omega, ?_⟩
  intro I7 e7
  have f1 : ∀ x, rd I3 (B + 6) x = if x = 5 * n + s then rd I (B + 6) (5 * a + k) else rd I (B + 6) x := by
    intro x
    rw [e3, rd_wt_a _ _ _ _ (by omega), e2, rd_wt_a _ _ _ _ (by omega), e1, rd_wt, if_pos rfl, wr_rd]
  have f1r : rd I3 (B + 6) (5 * r) = rd I (B + 6) (5 * r) := by rw [f1, if_neg (by omega)]
  have f5 : ∀ x, rd I5 (B + 6) x = if x = 5 * a + k then rd I (B + 6) (5 * r) else if x = 5 * n + s then rd I (B + 6) (5 * a + k) else rd I (B + 6) x := by
    intro x
    rw [e5, rd_wt_a _ _ _ _ (by omega), e4, rd_wt, if_pos rfl, wr_rd, f1r, f1]
  have q6 : ∀ x, rd I7 (B + 6) x = if 5 * r ≤ x ∧ x < 5 * r + (rs - 1) then rd I (B + 6) (x + 1) else if x = 5 * a + k then rd I (B + 6) (5 * r) else if x = 5 * n + s then rd I (B + 6) (5 * a + k) else rd I (B + 6) x := by
    intro x
    rw [e7, rd_cp_a _ _ _ _ _ _ (by omega), e6, rd_cp, if_pos rfl]
    by_cases c : 5 * r ≤ x ∧ x < 5 * r + (rs - 1)
    · rw [if_pos c, if_pos c, show 5 * r + 1 + (x - 5 * r) = x + 1 by omega, f5, if_neg (by omega), if_neg (by omega)]
    · rw [if_neg c, if_neg c, f5]
  have g5 : ∀ x, rd I6 (B + 7) x = if x = 6 * n + (s + 1) then rd I (B + 7) (6 * r) else rd I (B + 7) x := by
    intro x
    rw [e6, rd_cp_a _ _ _ _ _ _ (by omega), e5, rd_wt_a _ _ _ _ (by omega), e4, rd_wt_a _ _ _ _ (by omega), e3, rd_wt, if_pos rfl, wr_rd, e2, rd_wt_a _ _ _ _ (by omega), rd_wt_a _ _ _ _ (by omega), e1, rd_wt_a _ _ _ _ (by omega), rd_wt_a _ _ _ _ (by omega)]
  have q7 : ∀ x, rd I7 (B + 7) x = if 6 * r ≤ x ∧ x < 6 * r + rs then rd I (B + 7) (x + 1) else if x = 6 * n + (s + 1) then rd I (B + 7) (6 * r) else rd I (B + 7) x := by
    intro x
    rw [e7, rd_cp, if_pos rfl]
    by_cases c : 6 * r ≤ x ∧ x < 6 * r + rs
    · rw [if_pos c, if_pos c, show 6 * r + 1 + (x - 6 * r) = x + 1 by omega, g5, if_neg (by omega)]
    · rw [if_neg c, if_neg c, g5]
  have q8 : ∀ x, rd I7 (B + 8) x = if x = r then (rs : Int) - 1 else if x = n then (s : Int) + 1 else rd I (B + 8) x := by
    intro x
    rw [e7, rd_cp_a _ _ _ _ _ _ (by omega), e6, rd_cp_a _ _ _ _ _ _ (by omega), e5, rd_wt, if_pos rfl, wrx (by omega) (by omega), e4, rd_wt_a _ _ _ _ (by omega), e3, rd_wt_a _ _ _ _ (by omega), e2, rd_wt, if_pos rfl, wrx (by omega) (by omega), e1, rd_wt_a _ _ _ _ (by omega)]
  refine h I7 ?_ ?_ ?_ ?_ ?_ ?_ ?_ ?_ ?_ ?_ ?_
  · intro x x6 x7 x8
    rw [e7, cp_a _ _ _ _ _ _ x7, e6, cp_a _ _ _ _ _ _ x6, e5, wt_a _ _ _ _ x8, e4, wt_a _ _ _ _ x6, e3, wt_a _ _ _ _ x7, e2, wt_a _ _ _ _ x8, e1, wt_a _ _ _ _ x6]
  · rintro m hm ⟨c1, c2, c3⟩
    have h8 : rd I7 (B + 8) m = rd I (B + 8) m := by rw [q8, if_neg c3, if_neg c2]
    have hb := hsz m hm
    refine ⟨tks_congr h8 hb.2 (fun j hj => ?_), tcs_congr h8 hb.2 (fun j hj => ?_), h8⟩
    · rw [q6, if_neg (by omega), if_neg (by omega), if_neg (by omega)]
    · rw [q7, if_neg (by omega), if_neg (by omega)]
  · rw [q8, if_neg har, if_neg han, hsa]
  · rw [q8, if_neg hnr, if_pos rfl]
  · rw [q8, if_pos rfl]
  · unfold tks
    rw [q8, if_neg har, if_neg han, hsa, Int.toNat_natCast]
    refine seg_set (by omega) (fun j hj hjk => ?_) ?_
    · rw [q6, if_neg (by omega), if_neg (by omega), if_neg (by omega)]
    · rw [q6, if_neg (by omega), if_pos rfl]
  · refine tcs_congr (by rw [q8, if_neg har, if_neg han]) (by rw [hsa]; omega) (fun j hj => ?_)
    rw [q7, if_neg (by omega), if_neg (by omega)]
  · unfold tks
    rw [q8, if_pos rfl, hrs, show ((rs : Int) - 1).toNat = rs - 1 by omega, Int.toNat_natCast]
    refine seg_tl (by omega) (fun j hj => ?_)
    rw [q6, if_pos (by omega), show 5 * r + j + 1 = 5 * r + (j + 1) by omega]
  · unfold tcs
    rw [q8, if_pos rfl, hrs, show ((rs : Int) - 1).toNat + 1 = (rs + 1) - 1 by omega, Int.toNat_natCast]
    refine seg_tl (by omega) (fun j hj => ?_)
    rw [q7, if_pos (by omega), show 6 * r + j + 1 = 6 * r + (j + 1) by omega]
  · unfold tks
    rw [q8, if_neg hnr, if_pos rfl, hs, show ((s : Int) + 1).toNat = s + 1 by omega, Int.toNat_natCast]
    refine seg_sn ?_ (fun j hj => ?_)
    · rw [q6, if_neg (by omega), if_neg (by omega), if_pos rfl]
    · rw [q6, if_neg (by omega), if_neg (by omega), if_neg (by omega)]
  · unfold tcs
    rw [q8, if_neg hnr, if_pos rfl, hs, show ((s : Int) + 1).toNat + 1 = (s + 1) + 1 by omega, Int.toNat_natCast]
    refine seg_sn ?_ (fun j hj => ?_)
    · rw [q7, if_neg (by omega), if_pos rfl]
    · rw [q7, if_neg (by omega), if_neg (by omega)]
theorem seg_jn {f f' : Nat → Int} {b c n m : Nat} (h1 : ∀ j, j < n → f' (b + j) = f (b + j)) (h2 : ∀ j, j < m → f' (b + n + j) = f (c + j)) : seg f' b (n + m) = seg f b n ++ seg f c m := by
  rw [seg_app, seg_congr h1, seg_congr h2]
set_option maxHeartbeats 2000000 in
theorem c_join {B a k l r sa ls rs c : Nat} {fa fb : Nat} {I : Mm} {K : Mm → Prop} (hB : isX B) (ha : a < 348) (hl : l < 348) (hr : r < 348) (hal : a ≠ l) (har : a ≠ r) (hlr : l ≠ r) (hk2 : k < sa) (hsa : rd I (B + 8) a = sa) (hsa5 : sa ≤ 5) (hcl : rd I (B + 7) (6 * a + k) = l) (hcr : rd I (B + 7) (6 * a + (k + 1)) = r) (hls : rd I (B + 8) l = ls) (hrs : rd I (B + 8) r = rs) (h5 : ls + 1 + rs ≤ 5) (hc : rd I (B + 2) 7 = c) (hc2 : c < 348) (hsz : szOK I B)
    (h : ∀ I' : Mm, (∀ x, x ≠ B + 2 → x ≠ B + 6 → x ≠ B + 7 → x ≠ B + 8 → x ≠ B + 9 → I' x = I x) → (∀ j, j ≠ 7 → rd I' (B + 2) j = rd I (B + 2) j) → rd I' (B + 2) 7 = c + 1 → rd I' (B + 9) c = r → (∀ j, j ≠ c → rd I' (B + 9) j = rd I (B + 9) j) → ndEq I I' B (fun m => m ≠ l) → rd I' (B + 8) l = ls + 1 + rs → tks I' B l = tks I B l ++ rd I (B + 6) (5 * a + k) :: tks I B r → tcs I' B l = tcs I B l ++ tcs I B r → K I') : CallV 80 [.inr (2, B, 2), .inl (fa, (a : Int)), .inl (fb, (k : Int))] I K := by
  refine callV_fl (as' := [.inr (2, B, 2), .inl (1, (a : Int)), .inl (1, (k : Int))]) rfl ?_
  refine callV_of rfl (b_join hB (inRn (by omega)) (inRn (by omega)) ?_)
  rw [wrn (6 * a + k) (by omega) (by omega), wrn (6 * a + (k + 1)) (by omega) (by omega), wrn (5 * a + k) (by omega) (by omega)]
  simp only [Int.toNat_natCast]
  refine ⟨by omega, ?_⟩
  intro v3 e3 _
  rw [hcl] at e3
  refine ⟨by omega, ?_⟩
  intro v4 e4 _
  rw [hcr] at e4
  subst e3; subst e4
  simp only [Int.toNat_natCast]
  refine ⟨by omega, ?_⟩
  intro v5 e5 _
  rw [hls] at e5
  subst e5
  rw [wrn (5 * l + ls) (by omega) (by omega), wrn (5 * r) (by omega) (by omega), wrn (5 * l + (ls + 1)) (by omega) (by omega), wrn (6 * r) (by omega) (by omega), wrn (6 * l + (ls + 1)) (by omega) (by omega)]
  simp only [Int.toNat_natCast]
  refine ⟨by omega, by omega, ?_⟩
  intro I1 e1
  have h1 : rd I1 (B + 8) r = rs := by rw [e1, rd_wt_a _ _ _ _ (by omega), hrs]
  rw [h1]
  simp only [Int.toNat_natCast]
  refine ⟨by omega, by omega, ?_⟩
  intro I2 e2
  have h2 : rd I2 (B + 8) r = rs := by rw [e2, rd_cp_a _ _ _ _ _ _ (by omega), h1]
  rw [h2, wrn (rs + 1) (by omega) (by omega)]
  simp only [Int.toNat_natCast]
  refine ⟨by omega, by omega, ?_⟩
  intro I3 e3
  have h3 : rd I3 (B + 8) r = rs := by rw [e3, rd_cp_a _ _ _ _ _ _ (by omega), h2]
  rw [h3]
  refine ⟨by omega, by omega, ?_⟩
  intro I4 e4
  have h4 : rd I4 (B + 2) 7 = c := by rw [e4, rd_wt_a _ _ _ _ (by omega), e3, rd_cp_a _ _ _ _ _ _ (by omega), e2, rd_cp_a _ _ _ _ _ _ (by omega), e1, rd_wt_a _ _ _ _ (by omega), hc]
  rw [h4]
  simp only [Int.toNat_natCast]
  refine ⟨by omega, ?_⟩
  intro I5 e5 I6 e6
  have h5' : rd I5 (B + 2) 7 = c := by rw [e5, rd_wt_a _ _ _ _ (by omega), h4]
  rw [h5'] at e6
  have f1 : ∀ x, rd I1 (B + 6) x = if x = 5 * l + ls then rd I (B + 6) (5 * a + k) else rd I (B + 6) x := by
    intro x
    rw [e1, rd_wt, if_pos rfl, wr_rd]
  have q6 : ∀ x, rd I6 (B + 6) x = if 5 * l + (ls + 1) ≤ x ∧ x < 5 * l + (ls + 1) + rs then rd I (B + 6) (5 * r + (x - (5 * l + (ls + 1)))) else if x = 5 * l + ls then rd I (B + 6) (5 * a + k) else rd I (B + 6) x := by
    intro x
    rw [e6, rd_wt_a _ _ _ _ (by omega), e5, rd_wt_a _ _ _ _ (by omega), e4, rd_wt_a _ _ _ _ (by omega), e3, rd_cp_a _ _ _ _ _ _ (by omega), e2, rd_cp, if_pos rfl]
    by_cases cc : 5 * l + (ls + 1) ≤ x ∧ x < 5 * l + (ls + 1) + rs
    · rw [if_pos cc, if_pos cc, f1, if_neg (by omega)]
    · rw [if_neg cc, if_neg cc, f1]
  have q7 : ∀ x, rd I6 (B + 7) x = if 6 * l + (ls + 1) ≤ x ∧ x < 6 * l + (ls + 1) + (rs + 1) then rd I (B + 7) (6 * r + (x - (6 * l + (ls + 1)))) else rd I (B + 7) x := by
    intro x
    rw [e6, rd_wt_a _ _ _ _ (by omega), e5, rd_wt_a _ _ _ _ (by omega), e4, rd_wt_a _ _ _ _ (by omega), e3, rd_cp, if_pos rfl, e2, rd_cp_a _ _ _ _ _ _ (by omega), rd_cp_a _ _ _ _ _ _ (by omega), e1, rd_wt_a _ _ _ _ (by omega), rd_wt_a _ _ _ _ (by omega)]
  have q8 : ∀ x, rd I6 (B + 8) x = if x = l then (ls : Int) + 1 + rs else rd I (B + 8) x := by
    intro x
    rw [e6, rd_wt_a _ _ _ _ (by omega), e5, rd_wt_a _ _ _ _ (by omega), e4, rd_wt, if_pos rfl, wrx (by omega) (by omega), e3, rd_cp_a _ _ _ _ _ _ (by omega), e2, rd_cp_a _ _ _ _ _ _ (by omega), e1, rd_wt_a _ _ _ _ (by omega)]
  refine h I6 ?_ ?_ ?_ ?_ ?_ ?_ ?_ ?_ ?_
  · intro x x2 x6 x7 x8 x9
    rw [e6, wt_a _ _ _ _ x2, e5, wt_a _ _ _ _ x9, e4, wt_a _ _ _ _ x8, e3, cp_a _ _ _ _ _ _ x7, e2, cp_a _ _ _ _ _ _ x6, e1, wt_a _ _ _ _ x6]
  · intro j hj
    rw [e6, rd_wt_k _ _ _ _ hj, e5, rd_wt_a _ _ _ _ (by omega), e4, rd_wt_a _ _ _ _ (by omega), e3, rd_cp_a _ _ _ _ _ _ (by omega), e2, rd_cp_a _ _ _ _ _ _ (by omega), e1, rd_wt_a _ _ _ _ (by omega)]
  · rw [e6, rd_wt_s _ _ _ (inRx (by omega) (by omega))]
  · rw [e6, rd_wt_a _ _ _ _ (by omega), e5, rd_wt_s _ _ _ (inRn (by omega))]
  · intro j hj
    rw [e6, rd_wt_a _ _ _ _ (by omega), e5, rd_wt_k _ _ _ _ hj, e4, rd_wt_a _ _ _ _ (by omega), e3, rd_cp_a _ _ _ _ _ _ (by omega), e2, rd_cp_a _ _ _ _ _ _ (by omega), e1, rd_wt_a _ _ _ _ (by omega)]
  · intro m hm hml
    have h8 : rd I6 (B + 8) m = rd I (B + 8) m := by rw [q8, if_neg hml]
    have hb := hsz m hm
    refine ⟨tks_congr h8 hb.2 (fun j hj => ?_), tcs_congr h8 hb.2 (fun j hj => ?_), h8⟩
    · rw [q6, if_neg (by omega), if_neg (by omega)]
    · rw [q7, if_neg (by omega)]
  · rw [q8, if_pos rfl]
  · unfold tks
    rw [q8, if_pos rfl, hls, hrs, show ((ls : Int) + 1 + rs).toNat = ls + (1 + rs) by omega, Int.toNat_natCast, Int.toNat_natCast, seg_app]
    congr 1
    · exact seg_congr (fun j hj => by rw [q6, if_neg (by omega), if_neg (by omega)])
    · rw [show 1 + rs = rs + 1 by omega, seg_cons, q6, if_neg (by omega), if_pos rfl]
      congr 1
      exact seg_congr (fun j hj => by rw [q6, if_pos (by omega), show 5 * r + (5 * l + ls + 1 + j - (5 * l + (ls + 1))) = 5 * r + j by omega])
  · unfold tcs
    rw [q8, if_pos rfl, hls, hrs, show ((ls : Int) + 1 + rs).toNat + 1 = (ls + 1) + (rs + 1) by omega, Int.toNat_natCast, Int.toNat_natCast]
    refine seg_jn (fun j hj => ?_) (fun j hj => ?_)
    · rw [q7, if_neg (by omega)]
    · rw [q7, if_pos (by omega), show 6 * r + (6 * l + (ls + 1) + j - (6 * l + (ls + 1))) = 6 * r + j by omega]
