/-! THE CLASS: comparing entries, finding one -/
def en4 (f : Nat → Int) (q : Nat) : E := (f (4 * q), f (4 * q + 1), f (4 * q + 2), f (4 * q + 3))
def ent (I : Mm) (B : Nat) (q : Int) : E := en4 (rd I (B + 4)) q.toNat
def nsC (I : Mm) (B : Nat) : Nat → List Int × List Int := fun m => (tks I B m, tcs I B m)
def kys (I : Mm) (B m : Nat) : List E := (tks I B m).map (ent I B)
def cmD (f : Nat → Int) (a : Nat) (g : Nat → Int) (q : Nat) : Nat → Int
  | 0 => 0
  | d + 1 => wcmp (f (4 * a + (3 - d))) (g (4 * q + (3 - d))) (cmD f a g q d)
theorem cmD_4 (f : Nat → Int) (a : Nat) (g : Nat → Int) (q : Nat) : cmD f a g q 4 = ecmp (en4 f a) (en4 g q) := rfl
set_option maxHeartbeats 1000000 in
theorem c_cmp_23_3 {B a q : Nat} {I : Mm} {K : Int → Mm → Prop} {fa fb : Nat} (hB : isX B) (ha : 4 * a + 4 ≤ 4) (hq : 4 * q + 4 ≤ 2592) (h : K (ecmp (en4 (rd I (B + 24)) a) (en4 (rd I (B + 4)) q)) I) : CallZ 4 [.inr (2, B, 23), .inl (fa, (a : Int)), .inr (2, B, 3), .inl (fb, (q : Int))] I K := by
  have loop : ∀ (d w : Nat) (m5 m6 : Option AV), okO m5 → okO m6 → w + d = 4 → K (cmD (rd I (B + 24)) a (rd I (B + 4)) q d) I → GoA 4 3 [some (.inr (2, B, 23)), some (.inl (1, (a : Int))), some (.inr (2, B, 3)), some (.inl (1, (q : Int))), some (.inl (1, (w : Int))), m5, m6] [] I (rZ K) := by
    intro d
    induction d with
    | zero =>
      intro w m5 m6 h5 h6 hw hK
      exact b_cmp_23_3_3 hB (inRn (by omega)) (inRn (by omega)) (inRn (by omega)) h5 h6 ⟨fun _ => hK, fun z => absurd (by omega) z⟩
    | succ d ih =>
      intro w m5 m6 h5 h6 hw hK
      refine b_cmp_23_3_3 hB (inRn (by omega)) (inRn (by omega)) (inRn (by omega)) h5 h6 ⟨fun z => absurd z (by omega), fun _ => ?_⟩
      rw [wrn (4 * a + w) (by omega) (by omega), wrn (4 * q + w) (by omega) (by omega)]
      refine ⟨by omega, fun v5 e5 i5 => ⟨by omega, fun v6 e6 i6 => ⟨fun he v4 e4 i4 => ?_, fun hn => ⟨fun hl => ?_, fun hl => ?_⟩⟩⟩⟩
      · rw [wrn (w + 1) (by omega) (by omega)] at e4
        rw [e4]
        refine ih (w + 1) _ _ (okO_s (okF_1 i5 1)) (okO_s (okF_1 i6 1)) (by omega) ?_
        unfold cmD wcmp at hK
        rw [show 3 - d = w by omega, if_pos] at hK
        · exact hK
        · rw [Int.toNat_natCast] at e5 e6
          rw [← e5, ← e6]; exact he
      · unfold cmD wcmp at hK
        rw [Int.toNat_natCast] at e5 e6
        rw [show 3 - d = w by omega, ← e5, ← e6, if_neg hn, if_pos hl] at hK
        exact hK
      · unfold cmD wcmp at hK
        rw [Int.toNat_natCast] at e5 e6
        rw [show 3 - d = w by omega, ← e5, ← e6, if_neg hn, if_neg hl] at hK
        exact hK
  refine callZ_fl (as' := [.inr (2, B, 23), .inl (1, (a : Int)), .inr (2, B, 3), .inl (1, (q : Int))]) rfl ?_
  refine callZ_of rfl (b_cmp_23_3 hB (inRn (by omega)) (inRn (by omega)) ?_)
  refine GoA.fl (ls' := [some (.inr (2, B, 23)), some (.inl (1, (a : Int))), some (.inr (2, B, 3)), some (.inl (1, (q : Int))), some (.inl (1, ((0 : Nat) : Int))), none, none]) rfl rfl ?_
  exact loop 4 0 none none okO_n okO_n rfl h
set_option maxHeartbeats 1000000 in
theorem c_cmp_20_3 {B a q : Nat} {I : Mm} {K : Int → Mm → Prop} {fa fb : Nat} (hB : isX B) (ha : 4 * a + 4 ≤ 2560) (hq : 4 * q + 4 ≤ 2592) (h : K (ecmp (en4 (rd I (B + 21)) a) (en4 (rd I (B + 4)) q)) I) : CallZ 4 [.inr (2, B, 20), .inl (fa, (a : Int)), .inr (2, B, 3), .inl (fb, (q : Int))] I K := by
  have loop : ∀ (d w : Nat) (m5 m6 : Option AV), okO m5 → okO m6 → w + d = 4 → K (cmD (rd I (B + 21)) a (rd I (B + 4)) q d) I → GoA 4 3 [some (.inr (2, B, 20)), some (.inl (1, (a : Int))), some (.inr (2, B, 3)), some (.inl (1, (q : Int))), some (.inl (1, (w : Int))), m5, m6] [] I (rZ K) := by
    intro d
    induction d with
    | zero =>
      intro w m5 m6 h5 h6 hw hK
      exact b_cmp_20_3_3 hB (inRn (by omega)) (inRn (by omega)) (inRn (by omega)) h5 h6 ⟨fun _ => hK, fun z => absurd (by omega) z⟩
    | succ d ih =>
      intro w m5 m6 h5 h6 hw hK
      refine b_cmp_20_3_3 hB (inRn (by omega)) (inRn (by omega)) (inRn (by omega)) h5 h6 ⟨fun z => absurd z (by omega), fun _ => ?_⟩
      rw [wrn (4 * a + w) (by omega) (by omega), wrn (4 * q + w) (by omega) (by omega)]
      refine ⟨by omega, fun v5 e5 i5 => ⟨by omega, fun v6 e6 i6 => ⟨fun he v4 e4 i4 => ?_, fun hn => ⟨fun hl => ?_, fun hl => ?_⟩⟩⟩⟩
      · rw [wrn (w + 1) (by omega) (by omega)] at e4
        rw [e4]
        refine ih (w + 1) _ _ (okO_s (okF_1 i5 1)) (okO_s (okF_1 i6 1)) (by omega) ?_
        unfold cmD wcmp at hK
        rw [show 3 - d = w by omega, if_pos] at hK
        · exact hK
        · rw [Int.toNat_natCast] at e5 e6
          rw [← e5, ← e6]; exact he
      · unfold cmD wcmp at hK
        rw [Int.toNat_natCast] at e5 e6
        rw [show 3 - d = w by omega, ← e5, ← e6, if_neg hn, if_pos hl] at hK
        exact hK
      · unfold cmD wcmp at hK
        rw [Int.toNat_natCast] at e5 e6
        rw [show 3 - d = w by omega, ← e5, ← e6, if_neg hn, if_neg hl] at hK
        exact hK
  refine callZ_fl (as' := [.inr (2, B, 20), .inl (1, (a : Int)), .inr (2, B, 3), .inl (1, (q : Int))]) rfl ?_
  refine callZ_of rfl (b_cmp_20_3 hB (inRn (by omega)) (inRn (by omega)) ?_)
  refine GoA.fl (ls' := [some (.inr (2, B, 20)), some (.inl (1, (a : Int))), some (.inr (2, B, 3)), some (.inl (1, (q : Int))), some (.inl (1, ((0 : Nat) : Int))), none, none]) rfl rfl ?_
  exact loop 4 0 none none okO_n okO_n rfl h
set_option maxHeartbeats 1000000 in
theorem c_cmp_16_3 {B a q : Nat} {I : Mm} {K : Int → Mm → Prop} {fa fb : Nat} (hB : isX B) (ha : 4 * a + 4 ≤ 1200) (hq : 4 * q + 4 ≤ 2592) (h : K (ecmp (en4 (rd I (B + 17)) a) (en4 (rd I (B + 4)) q)) I) : CallZ 4 [.inr (2, B, 16), .inl (fa, (a : Int)), .inr (2, B, 3), .inl (fb, (q : Int))] I K := by
  have loop : ∀ (d w : Nat) (m5 m6 : Option AV), okO m5 → okO m6 → w + d = 4 → K (cmD (rd I (B + 17)) a (rd I (B + 4)) q d) I → GoA 4 3 [some (.inr (2, B, 16)), some (.inl (1, (a : Int))), some (.inr (2, B, 3)), some (.inl (1, (q : Int))), some (.inl (1, (w : Int))), m5, m6] [] I (rZ K) := by
    intro d
    induction d with
    | zero =>
      intro w m5 m6 h5 h6 hw hK
      exact b_cmp_16_3_3 hB (inRn (by omega)) (inRn (by omega)) (inRn (by omega)) h5 h6 ⟨fun _ => hK, fun z => absurd (by omega) z⟩
    | succ d ih =>
      intro w m5 m6 h5 h6 hw hK
      refine b_cmp_16_3_3 hB (inRn (by omega)) (inRn (by omega)) (inRn (by omega)) h5 h6 ⟨fun z => absurd z (by omega), fun _ => ?_⟩
      rw [wrn (4 * a + w) (by omega) (by omega), wrn (4 * q + w) (by omega) (by omega)]
      refine ⟨by omega, fun v5 e5 i5 => ⟨by omega, fun v6 e6 i6 => ⟨fun he v4 e4 i4 => ?_, fun hn => ⟨fun hl => ?_, fun hl => ?_⟩⟩⟩⟩
      · rw [wrn (w + 1) (by omega) (by omega)] at e4
        rw [e4]
        refine ih (w + 1) _ _ (okO_s (okF_1 i5 1)) (okO_s (okF_1 i6 1)) (by omega) ?_
        unfold cmD wcmp at hK
        rw [show 3 - d = w by omega, if_pos] at hK
        · exact hK
        · rw [Int.toNat_natCast] at e5 e6
          rw [← e5, ← e6]; exact he
      · unfold cmD wcmp at hK
        rw [Int.toNat_natCast] at e5 e6
        rw [show 3 - d = w by omega, ← e5, ← e6, if_neg hn, if_pos hl] at hK
        exact hK
      · unfold cmD wcmp at hK
        rw [Int.toNat_natCast] at e5 e6
        rw [show 3 - d = w by omega, ← e5, ← e6, if_neg hn, if_neg hl] at hK
        exact hK
  refine callZ_fl (as' := [.inr (2, B, 16), .inl (1, (a : Int)), .inr (2, B, 3), .inl (1, (q : Int))]) rfl ?_
  refine callZ_of rfl (b_cmp_16_3 hB (inRn (by omega)) (inRn (by omega)) ?_)
  refine GoA.fl (ls' := [some (.inr (2, B, 16)), some (.inl (1, (a : Int))), some (.inr (2, B, 3)), some (.inl (1, (q : Int))), some (.inl (1, ((0 : Nat) : Int))), none, none]) rfl rfl ?_
  exact loop 4 0 none none okO_n okO_n rfl h
set_option maxHeartbeats 1000000 in
theorem c_cmp_3_3 {B a q : Nat} {I : Mm} {K : Int → Mm → Prop} {fa fb : Nat} (hB : isX B) (ha : 4 * a + 4 ≤ 2592) (hq : 4 * q + 4 ≤ 2592) (h : K (ecmp (en4 (rd I (B + 4)) a) (en4 (rd I (B + 4)) q)) I) : CallZ 4 [.inr (2, B, 3), .inl (fa, (a : Int)), .inr (2, B, 3), .inl (fb, (q : Int))] I K := by
  have loop : ∀ (d w : Nat) (m5 m6 : Option AV), okO m5 → okO m6 → w + d = 4 → K (cmD (rd I (B + 4)) a (rd I (B + 4)) q d) I → GoA 4 3 [some (.inr (2, B, 3)), some (.inl (1, (a : Int))), some (.inr (2, B, 3)), some (.inl (1, (q : Int))), some (.inl (1, (w : Int))), m5, m6] [] I (rZ K) := by
    intro d
    induction d with
    | zero =>
      intro w m5 m6 h5 h6 hw hK
      exact b_cmp_3_3_3 hB (inRn (by omega)) (inRn (by omega)) (inRn (by omega)) h5 h6 ⟨fun _ => hK, fun z => absurd (by omega) z⟩
    | succ d ih =>
      intro w m5 m6 h5 h6 hw hK
      refine b_cmp_3_3_3 hB (inRn (by omega)) (inRn (by omega)) (inRn (by omega)) h5 h6 ⟨fun z => absurd z (by omega), fun _ => ?_⟩
      rw [wrn (4 * a + w) (by omega) (by omega), wrn (4 * q + w) (by omega) (by omega)]
      refine ⟨by omega, fun v5 e5 i5 => ⟨by omega, fun v6 e6 i6 => ⟨fun he v4 e4 i4 => ?_, fun hn => ⟨fun hl => ?_, fun hl => ?_⟩⟩⟩⟩
      · rw [wrn (w + 1) (by omega) (by omega)] at e4
        rw [e4]
        refine ih (w + 1) _ _ (okO_s (okF_1 i5 1)) (okO_s (okF_1 i6 1)) (by omega) ?_
        unfold cmD wcmp at hK
        rw [show 3 - d = w by omega, if_pos] at hK
        · exact hK
        · rw [Int.toNat_natCast] at e5 e6
          rw [← e5, ← e6]; exact he
      · unfold cmD wcmp at hK
        rw [Int.toNat_natCast] at e5 e6
        rw [show 3 - d = w by omega, ← e5, ← e6, if_neg hn, if_pos hl] at hK
        exact hK
      · unfold cmD wcmp at hK
        rw [Int.toNat_natCast] at e5 e6
        rw [show 3 - d = w by omega, ← e5, ← e6, if_neg hn, if_neg hl] at hK
        exact hK
  refine callZ_fl (as' := [.inr (2, B, 3), .inl (1, (a : Int)), .inr (2, B, 3), .inl (1, (q : Int))]) rfl ?_
  refine callZ_of rfl (b_cmp_3_3 hB (inRn (by omega)) (inRn (by omega)) ?_)
  refine GoA.fl (ls' := [some (.inr (2, B, 3)), some (.inl (1, (a : Int))), some (.inr (2, B, 3)), some (.inl (1, (q : Int))), some (.inl (1, ((0 : Nat) : Int))), none, none]) rfl rfl ?_
  exact loop 4 0 none none okO_n okO_n rfl h
set_option maxHeartbeats 1000000 in
theorem c_cmp_20_20 {B a q : Nat} {I : Mm} {K : Int → Mm → Prop} {fa fb : Nat} (hB : isX B) (ha : 4 * a + 4 ≤ 2560) (hq : 4 * q + 4 ≤ 2560) (h : K (ecmp (en4 (rd I (B + 21)) a) (en4 (rd I (B + 21)) q)) I) : CallZ 4 [.inr (2, B, 20), .inl (fa, (a : Int)), .inr (2, B, 20), .inl (fb, (q : Int))] I K := by
  have loop : ∀ (d w : Nat) (m5 m6 : Option AV), okO m5 → okO m6 → w + d = 4 → K (cmD (rd I (B + 21)) a (rd I (B + 21)) q d) I → GoA 4 3 [some (.inr (2, B, 20)), some (.inl (1, (a : Int))), some (.inr (2, B, 20)), some (.inl (1, (q : Int))), some (.inl (1, (w : Int))), m5, m6] [] I (rZ K) := by
    intro d
    induction d with
    | zero =>
      intro w m5 m6 h5 h6 hw hK
      exact b_cmp_20_20_3 hB (inRn (by omega)) (inRn (by omega)) (inRn (by omega)) h5 h6 ⟨fun _ => hK, fun z => absurd (by omega) z⟩
    | succ d ih =>
      intro w m5 m6 h5 h6 hw hK
      refine b_cmp_20_20_3 hB (inRn (by omega)) (inRn (by omega)) (inRn (by omega)) h5 h6 ⟨fun z => absurd z (by omega), fun _ => ?_⟩
      rw [wrn (4 * a + w) (by omega) (by omega), wrn (4 * q + w) (by omega) (by omega)]
      refine ⟨by omega, fun v5 e5 i5 => ⟨by omega, fun v6 e6 i6 => ⟨fun he v4 e4 i4 => ?_, fun hn => ⟨fun hl => ?_, fun hl => ?_⟩⟩⟩⟩
      · rw [wrn (w + 1) (by omega) (by omega)] at e4
        rw [e4]
        refine ih (w + 1) _ _ (okO_s (okF_1 i5 1)) (okO_s (okF_1 i6 1)) (by omega) ?_
        unfold cmD wcmp at hK
        rw [show 3 - d = w by omega, if_pos] at hK
        · exact hK
        · rw [Int.toNat_natCast] at e5 e6
          rw [← e5, ← e6]; exact he
      · unfold cmD wcmp at hK
        rw [Int.toNat_natCast] at e5 e6
        rw [show 3 - d = w by omega, ← e5, ← e6, if_neg hn, if_pos hl] at hK
        exact hK
      · unfold cmD wcmp at hK
        rw [Int.toNat_natCast] at e5 e6
        rw [show 3 - d = w by omega, ← e5, ← e6, if_neg hn, if_neg hl] at hK
        exact hK
  refine callZ_fl (as' := [.inr (2, B, 20), .inl (1, (a : Int)), .inr (2, B, 20), .inl (1, (q : Int))]) rfl ?_
  refine callZ_of rfl (b_cmp_20_20 hB (inRn (by omega)) (inRn (by omega)) ?_)
  refine GoA.fl (ls' := [some (.inr (2, B, 20)), some (.inl (1, (a : Int))), some (.inr (2, B, 20)), some (.inl (1, (q : Int))), some (.inl (1, ((0 : Nat) : Int))), none, none]) rfl rfl ?_
  exact loop 4 0 none none okO_n okO_n rfl h
theorem pthT_congr {α : Type} {ns : Nat → List α × List Int} {s s' : Nat → Nat} {n : Nat} : ∀ i, (∀ j, j < i → s j = s' j) → pthT ns s n i = pthT ns s' n i
  | 0, _ => rfl
  | i + 1, h => by
    show ((ns (pthT ns s n i)).2[s i]?.getD 0).toNat = ((ns (pthT ns s' n i)).2[s' i]?.getD 0).toNat
    rw [pthT_congr i (fun j hj => h j (by omega)), h i (by omega)]
def sJ (J : Mm) (B : Nat) : Nat → Nat := fun j => (rd J (B + 11) j).toNat
def FInv (I J : Mm) (B r : Nat) (e : E) (l : Nat) : Prop :=
  (∀ c, c ≠ B + 2 → c ≠ B + 10 → c ≠ B + 11 → J c = I c) ∧ (∀ k, k ≠ 11 → rd J (B + 2) k = rd I (B + 2) k) ∧
  ∀ j, j < l → rd J (B + 10) j = pthT (nsC I B) (sJ J B) r j ∧ rd J (B + 11) j = sJ J B j ∧ sJ J B j = kc e (kys I B (pthT (nsC I B) (sJ J B) r j)) ∧ hit e (kys I B (pthT (nsC I B) (sJ J B) r j)) = false
/-- one level of the way is written down -/
theorem f_step {I J I3 : Mm} {B r l n k : Nat} {e : E} (hF : FInv I J B r e l) (hn : n = pthT (nsC I B) (sJ J B) r l) (hn2 : n < 348) (hk : k ≤ 5) (hl : l < 12) (h3 : I3 = wt (wt (wt J (B + 10) l (n : Int)) (B + 11) l (k : Int)) (B + 2) 11 (l : Int)) :
    (∀ c, c ≠ B + 2 → c ≠ B + 10 → c ≠ B + 11 → I3 c = I c) ∧ (∀ k, k ≠ 11 → rd I3 (B + 2) k = rd I (B + 2) k) ∧ rd I3 (B + 2) 11 = l ∧ pthT (nsC I B) (sJ I3 B) r l = n ∧ sJ I3 B l = k ∧
    (∀ j, j ≤ l → rd I3 (B + 10) j = pthT (nsC I B) (sJ I3 B) r j ∧ rd I3 (B + 11) j = sJ I3 B j) ∧
    (∀ j, j < l → sJ I3 B j = kc e (kys I B (pthT (nsC I B) (sJ I3 B) r j)) ∧ hit e (kys I B (pthT (nsC I B) (sJ I3 B) r j)) = false) := by
  obtain ⟨f1, f2, f3⟩ := hF
  have e11 : ∀ j, rd I3 (B + 11) j = if j = l then (k : Int) else rd J (B + 11) j := by
    intro j
    rw [h3, rd_wt_a _ _ _ _ (by omega), rd_wt, if_pos rfl, wrn k rfl (by omega)]
    by_cases c : j = l
    · rw [if_pos c, if_pos c]
    · rw [if_neg c, if_neg c, rd_wt_a _ _ _ _ (by omega)]
  have e10 : ∀ j, rd I3 (B + 10) j = if j = l then (n : Int) else rd J (B + 10) j := by
    intro j
    rw [h3, rd_wt_a _ _ _ _ (by omega), rd_wt_a _ _ _ _ (by omega), rd_wt, if_pos rfl, wrn n rfl (by omega)]
  have es : ∀ j, j < l → sJ I3 B j = sJ J B j := by
    intro j hj
    unfold sJ
    rw [e11, if_neg (by omega)]
  have esl : sJ I3 B l = k := by
    unfold sJ
    rw [e11, if_pos rfl, Int.toNat_natCast]
  have ep : ∀ j, j ≤ l → pthT (nsC I B) (sJ I3 B) r j = pthT (nsC I B) (sJ J B) r j := fun j hj => pthT_congr j (fun i hi => es i (by omega))
  refine ⟨?_, ?_, ?_, ?_, esl, ?_, ?_⟩
  · intro c h1 h2 h4
    rw [h3, wt_a _ _ _ _ h1, wt_a _ _ _ _ h4, wt_a _ _ _ _ h2, f1 c h1 h2 h4]
  · intro j hj
    rw [h3, rd_wt_k _ _ _ _ hj, rd_wt_a _ _ _ _ (by omega), rd_wt_a _ _ _ _ (by omega), f2 j hj]
  · rw [h3, rd_wt_s _ _ _ (inRn (by omega))]
  · rw [ep l (Nat.le_refl _), hn]
  · intro j hj
    rw [e10, ep j hj]
    by_cases c : j = l
    · subst c
      rw [if_pos rfl, ← hn]
      refine ⟨rfl, ?_⟩
      rw [esl, e11, if_pos rfl]
    · rw [if_neg c]
      refine ⟨(f3 j (by omega)).1, ?_⟩
      rw [es j (by omega), e11, if_neg c]
      exact (f3 j (by omega)).2.1
  · intro j hj
    rw [ep j (by omega), es j hj]
    exact (f3 j hj).2.2
theorem kids0 {V : Nat → Prop} {ns : Nat → List Int × List Int} {h n : Nat} (hw : wfT V ns h n) : ∃ c, (ns n).2[0]? = some c ∧ (h = 0 → c = -1) ∧ (h ≠ 0 → 0 ≤ c) := by
  cases h with
  | zero => exact ⟨-1, by rw [hw.2]; rfl, fun _ => rfl, fun z => absurd rfl z⟩
  | succ h =>
    have h0 : 0 < (ns n).2.length := by rw [hw.2.1]; omega
    refine ⟨(ns n).2[0], List.getElem?_eq_getElem h0, fun z => absurd z (by omega), fun _ => (hw.2.2 _ (List.getElem_mem h0)).1⟩
theorem tcs_get {I : Mm} {B n k : Nat} {c : Int} (h : (tcs I B n)[k]? = some c) : rd I (B + 7) (6 * n + k) = c ∧ k ≤ (rd I (B + 8) n).toNat := by
  have hl := (List.getElem?_eq_some_iff.mp h).1
  unfold tcs at h hl
  rw [seg_len] at hl
  rw [seg_get _ _ hl] at h
  exact ⟨by cases h; rfl, by omega⟩
theorem tks_len (I : Mm) (B n : Nat) : (tks I B n).length = (rd I (B + 8) n).toNat := seg_len _ _ _
theorem tcs_len (I : Mm) (B n : Nat) : (tcs I B n).length = (rd I (B + 8) n).toNat + 1 := seg_len _ _ _
theorem tks_get {I : Mm} {B n k : Nat} (h : k < (rd I (B + 8) n).toNat) : (tks I B n)[k]? = some (rd I (B + 6) (5 * n + k)) := seg_get _ _ h
theorem kys_get {I : Mm} {B n k : Nat} (h : k < (rd I (B + 8) n).toNat) : (kys I B n)[k]? = some (ent I B (rd I (B + 6) (5 * n + k))) := by
  unfold kys
  rw [List.getElem?_map, tks_get h]
  rfl
set_option maxHeartbeats 2000000 in
theorem c_find_23 {B a h r : Nat} {I : Mm} {K : Int → Mm → Prop} {fa : Nat} (hB : isX B) (ha : 4 * a + 4 ≤ 4) (hsz : szOK I B) (hroot : rd I (B + 2) 8 = r) (hw : wfT (fun m => m < 348) (nsC I B) h r) (hn : ∀ m ∈ fpT (nsC I B) h r, ∀ q ∈ tks I B m, 0 ≤ q ∧ q < 648) (hh : h ≤ 11)
    (hK : ∀ (d : Nat) (x : Int) (I' : Mm), (∀ c, c ≠ B + 2 → c ≠ B + 10 → c ≠ B + 11 → I' c = I c) → (∀ k, k ≠ 11 → rd I' (B + 2) k = rd I (B + 2) k) → rd I' (B + 2) 11 = d → d ≤ h →
      (∀ j, j ≤ d → rd I' (B + 10) j = pthT (nsC I B) (sJ I' B) r j ∧ rd I' (B + 11) j = sJ I' B j ∧ sJ I' B j = kc (en4 (rd I (B + 24)) a) (kys I B (pthT (nsC I B) (sJ I' B) r j))) →
      (∀ j, j < d → hit (en4 (rd I (B + 24)) a) (kys I B (pthT (nsC I B) (sJ I' B) r j)) = false) →
      ((x = 1 ∧ hit (en4 (rd I (B + 24)) a) (kys I B (pthT (nsC I B) (sJ I' B) r d)) = true) ∨ (x = 0 ∧ hit (en4 (rd I (B + 24)) a) (kys I B (pthT (nsC I B) (sJ I' B) r d)) = false ∧ d = h)) → K x I') : CallZ 71 [.inr (2, B, 2), .inr (2, B, 23), .inl (fa, (a : Int))] I K := by
  have outer : ∀ (g l n : Nat) (J : Mm) (m5 m6 : Option AV), okO m5 → okO m6 → l + g = h → FInv I J B r (en4 (rd I (B + 24)) a) l → n = pthT (nsC I B) (sJ J B) r l → wfT (fun m => m < 348) (nsC I B) g n → (∀ m ∈ fpT (nsC I B) g n, m ∈ fpT (nsC I B) h r) → GoA 71 8 [some (.inr (2, B, 2)), some (.inr (2, B, 23)), some (.inl (1, (a : Int))), some (.inl (1, (n : Int))), some (.inl (1, (l : Int))), m5, m6] [] J (rZ K) := by
    intro g
    induction g using Nat.strongRecOn with
    | ind g ih =>
      intro l n J m5 m6 h5 h6 hl hF hnp wn hin
      have hn348 : n < 348 := wfT_V wn n (fpT_self _ _ _)
      have hfn : n ∈ fpT (nsC I B) h r := hin n (fpT_self _ _ _)
      have fr8 : ∀ k, rd J (B + 8) k = rd I (B + 8) k := fun k => rd_of (hF.1 _ (by omega) (by omega) (by omega)) k
      have fr6 : ∀ k, rd J (B + 6) k = rd I (B + 6) k := fun k => rd_of (hF.1 _ (by omega) (by omega) (by omega)) k
      have frW : rd J (B + 24) = rd I (B + 24) := funext (fun k => rd_of (hF.1 _ (by omega) (by omega) (by omega)) k)
      have fr4 : rd J (B + 4) = rd I (B + 4) := funext (fun k => rd_of (hF.1 _ (by omega) (by omega) (by omega)) k)
      have szb := hsz n hn348
      obtain ⟨sz, hsz8⟩ : ∃ sz : Nat, rd I (B + 8) n = sz := ⟨(rd I (B + 8) n).toNat, by omega⟩
      rw [hsz8] at szb
      have hlen : (kys I B n).length = sz := by unfold kys; rw [List.length_map, tks_len, hsz8, Int.toNat_natCast]
      have ext : ∀ (k : Nat) (od : Int), kc (en4 (rd I (B + 24)) a) (kys I B n) = k → (od = 0 ↔ hit (en4 (rd I (B + 24)) a) (kys I B n) = true) → inR od → (0 ≤ (l : Int) ∧ (l : Int) < 12) ∧ (∀ I1, I1 = wt J (B + 10) ((l : Int)).toNat (n : Int) → (0 ≤ (l : Int) ∧ (l : Int) < 12) ∧ (∀ I2, I2 = wt I1 (B + 11) ((l : Int)).toNat (k : Int) → ∀ I3, I3 = wt I2 (B + 2) 11 (l : Int) → (od = 0 → (od = 0 → (rZ K) (some (.inl (2, 1))) I3) ∧ (¬ od = 0 → (rZ K) (some (.inl (2, 0))) I3)) ∧ (¬ od = 0 → (0 ≤ (wr ((n : Int) * 6)) ∧ (wr ((n : Int) * 6)) < 2088) ∧ ((rd I3 (B + 7) (wr ((n : Int) * 6)).toNat = (-1) → (od = 0 → (rZ K) (some (.inl (2, 1))) I3) ∧ (¬ od = 0 → (rZ K) (some (.inl (2, 0))) I3)) ∧ (¬ rd I3 (B + 7) (wr ((n : Int) * 6)).toNat = (-1) → (0 ≤ (wr (((n : Int) * 6) + (k : Int))) ∧ (wr (((n : Int) * 6) + (k : Int))) < 2088) ∧ (∀ v3_1, v3_1 = rd I3 (B + 7) (wr (((n : Int) * 6) + (k : Int))).toNat → inR v3_1 → ∀ v4_2, v4_2 = wr ((l : Int) + 1) → inR v4_2 → GoA 71 8 [some (.inr (2, B, 2)), some (.inr (2, B, 23)), some (.inl (1, (a : Int))), some (.inl (1, v3_1)), some (.inl (1, v4_2)), some (.inl (1, (k : Int))), some (.inl (1, od))] [] I3 (rZ K))))))) := by
        intro k od ek eo hod
        have kle : k ≤ sz := by have := kc_le (en4 (rd I (B + 24)) a) (kys I B n); omega
        refine ⟨by omega, ?_⟩
        rintro I1 rfl
        refine ⟨by omega, ?_⟩
        rintro I2 rfl
        rw [Int.toNat_natCast]
        intro I3 e3
        obtain ⟨s1, s2, s3, s4, s5, s6, s7⟩ := f_step (k := k) hF hnp hn348 (by omega) (by omega) e3
        have hcom : ∀ j, j ≤ l → rd I3 (B + 10) j = pthT (nsC I B) (sJ I3 B) r j ∧ rd I3 (B + 11) j = sJ I3 B j ∧ sJ I3 B j = kc (en4 (rd I (B + 24)) a) (kys I B (pthT (nsC I B) (sJ I3 B) r j)) := by
          intro j hj
          refine ⟨(s6 j hj).1, (s6 j hj).2, ?_⟩
          by_cases c : j = l
          · subst c
            rw [s4, s5, ek]
          · exact (s7 j (by omega)).1
        have fr7 : ∀ k, rd I3 (B + 7) k = rd I (B + 7) k := fun k => rd_of (s1 _ (by omega) (by omega) (by omega)) k
        refine ⟨fun z => ⟨fun _ => ?_, fun z2 => absurd z z2⟩, fun z => ?_⟩
        · exact hK l 1 I3 s1 s2 s3 (by omega) hcom (fun j hj => (s7 j hj).2) (Or.inl ⟨rfl, by rw [s4]; exact eo.mp z⟩)
        · have hf : hit (en4 (rd I (B + 24)) a) (kys I B n) = false := by
            cases hc : hit (en4 (rd I (B + 24)) a) (kys I B n) with
            | false => rfl
            | true => exact absurd (eo.mpr hc) z
          obtain ⟨c0, hc0, hc1, hc2⟩ := kids0 wn
          have r0 := (tcs_get hc0).1
          rw [wrn (6 * n) (by omega) (by omega), Int.toNat_natCast, fr7, show 6 * n = 6 * n + 0 by omega, r0]
          refine ⟨by omega, fun z3 => ⟨fun z4 => absurd z4 z, fun _ => ?_⟩, fun z3 => ?_⟩
          · have g0 : g = 0 := by
              by_cases c : g = 0
              · exact c
              · have := hc2 c; omega
            exact hK l 0 I3 s1 s2 s3 (by omega) hcom (fun j hj => (s7 j hj).2) (Or.inr ⟨rfl, by rw [s4]; exact hf, by omega⟩)
          · have g0 : g ≠ 0 := fun c => z3 (hc1 c)
            obtain ⟨g', rfl⟩ : ∃ g', g = g' + 1 := ⟨g - 1, by omega⟩
            have kl : k < (nsC I B n).2.length := by
              show k < (tcs I B n).length
              rw [tcs_len, hsz8, Int.toNat_natCast]; omega
            have hck : (nsC I B n).2[k]? = some ((nsC I B n).2[k]) := List.getElem?_eq_getElem kl
            have hcm := List.mem_of_getElem? hck
            have wc := wn.2.2 _ hcm
            have rk := (tcs_get (I := I) (B := B) (n := n) (k := k) hck).1
            rw [wrn (6 * n + k) (by omega) (by omega), Int.toNat_natCast, fr7, rk]
            obtain ⟨c, hcc⟩ : ∃ c : Nat, (nsC I B n).2[k] = (c : Int) := ⟨((nsC I B n).2[k]).toNat, by omega⟩
            rw [hcc] at wc hck hcm ⊢
            rw [Int.toNat_natCast] at wc
            refine ⟨by omega, fun v3 e3' _ v4 e4' _ => ?_⟩
            rw [wrn (l + 1) (by omega) (by omega)] at e4'
            rw [e3', e4']
            refine ih g' (by omega) (l + 1) c I3 _ _ (okO_s (okF_1 (inRn (by omega)) 1)) (okO_s (okF_1 hod 1)) (by omega) ⟨s1, s2, ?_⟩ ?_ wc.2 ?_
            · intro j hj
              refine ⟨(hcom j (by omega)).1, (hcom j (by omega)).2.1, (hcom j (by omega)).2.2, ?_⟩
              by_cases cj : j = l
              · subst cj; rw [s4]; exact hf
              · exact (s7 j (by omega)).2
            · show c = ((nsC I B (pthT (nsC I B) (sJ I3 B) r l)).2[sJ I3 B l]?.getD 0).toNat
              rw [s4, s5, hck]; rfl
            · intro m hm
              exact hin m (fpT_kid hcm (by rw [Int.toNat_natCast]; exact hm))
      have stop : ∀ (k : Nat) (od : Int), k < sz → inR od → od ≤ 0 → (∀ j y, j < k → (kys I B n)[j]? = some y → 0 < ecmp (en4 (rd I (B + 24)) a) y) → (∀ y, (kys I B n)[k]? = some y → od = ecmp (en4 (rd I (B + 24)) a) y) → GoA 71 21 [some (.inr (2, B, 2)), some (.inr (2, B, 23)), some (.inl (1, (a : Int))), some (.inl (1, (n : Int))), some (.inl (1, (l : Int))), some (.inl (1, (k : Int))), some (.inl (1, od))] [] J (rZ K) := by
        intro k od hk hod h0 hlo hy0
        refine b_find_23_21 hB (inRn (by omega)) (inRn (by omega)) (inRn (by omega)) (inRn (by omega)) hod ⟨by omega, fun c => ?_, fun c => ⟨fun c2 => ?_, fun c2 => absurd h0 c2⟩⟩
        · exfalso
          rw [Int.toNat_natCast, fr8, hsz8] at c
          omega
        · obtain ⟨y, hy⟩ : ∃ y, (kys I B n)[k]? = some y := ⟨_, List.getElem?_eq_getElem (by omega)⟩
          have z4 := hy0 y hy
          have ek : kc (en4 (rd I (B + 24)) a) (kys I B n) = k := kc_of (by omega) hlo (fun y' hy' => by rw [hy] at hy'; cases hy'; omega)
          refine ext k od ek ⟨fun z => ?_, fun z => ?_⟩ hod
          · rw [hit_iff, ek, hy]
            rw [(ecmp_zero (en4 (rd I (B + 24)) a) y).mp (by omega)]
          · have := hit_iff.mp z
            rw [ek, hy] at this
            cases this
            rw [z4]
            exact (ecmp_zero _ _).mpr rfl
      have inner : ∀ (v k : Nat) (od : Int), k + v = sz → inR od → 0 < od → (∀ j y, j < k → (kys I B n)[j]? = some y → 0 < ecmp (en4 (rd I (B + 24)) a) y) → GoA 71 21 [some (.inr (2, B, 2)), some (.inr (2, B, 23)), some (.inl (1, (a : Int))), some (.inl (1, (n : Int))), some (.inl (1, (l : Int))), some (.inl (1, (k : Int))), some (.inl (1, od))] [] J (rZ K) := by
        intro v
        induction v with
        | zero =>
          intro k od hkv hod h0 hlo
          refine b_find_23_21 hB (inRn (by omega)) (inRn (by omega)) (inRn (by omega)) (inRn (by omega)) hod ⟨by omega, fun c => ?_, fun c => ⟨fun c2 => absurd c2 (by omega), fun c2 => ?_⟩⟩
          · have ek : kc (en4 (rd I (B + 24)) a) (kys I B n) = k := kc_of (by omega) hlo (fun y hy => by rw [List.getElem?_eq_none (by omega)] at hy; cases hy)
            refine ext k od ek ⟨fun z => by omega, fun z => ?_⟩ hod
            have := hit_iff.mp z
            rw [ek, List.getElem?_eq_none (by omega)] at this
            cases this
          · exfalso
            rw [Int.toNat_natCast, fr8, hsz8] at c
            omega
        | succ v ihv =>
          intro k od hkv hod h0 hlo
          refine b_find_23_21 hB (inRn (by omega)) (inRn (by omega)) (inRn (by omega)) (inRn (by omega)) hod ⟨by omega, fun c => ?_, fun c => ⟨fun c2 => absurd c2 (by omega), fun c2 => ?_⟩⟩
          · exfalso
            rw [Int.toNat_natCast, fr8, hsz8] at c
            omega
          · rw [wrn (5 * n + k) (by omega) (by omega), Int.toNat_natCast, fr6]
            have kl : k < (rd I (B + 8) n).toNat := by rw [hsz8]; omega
            have qm : rd I (B + 6) (5 * n + k) ∈ tks I B n := List.mem_of_getElem? (tks_get kl)
            have qb := hn n hfn _ qm
            obtain ⟨q, hq⟩ : ∃ q : Nat, rd I (B + 6) (5 * n + k) = q := ⟨(rd I (B + 6) (5 * n + k)).toNat, by omega⟩
            refine ⟨by omega, ?_⟩
            rw [hq] at qb ⊢
            refine c_cmp_23_3 hB (by omega) (by omega) ?_
            rw [frW, fr4]
            have hy : (kys I B n)[k]? = some (en4 (rd I (B + 4)) q) := by
              rw [kys_get kl, hq]
              unfold ent
              rw [Int.toNat_natCast]
            intro v6 e6 i6
            refine ⟨fun z => ?_, fun z v5 e5 i5 => ?_⟩
            · exact stop k v6 (by omega) i6 z hlo (fun y hy' => by rw [hy] at hy'; cases hy'; exact e6)
            · rw [wrn (k + 1) (by omega) (by omega)] at e5
              rw [e5]
              refine ihv (k + 1) v6 (by omega) i6 (by omega) (fun j y hj hy' => ?_)
              by_cases cj : j = k
              · subst cj
                rw [hy] at hy'
                cases hy'
                omega
              · exact hlo j y (by omega) hy'
      refine b_find_23_8 hB (inRn (by omega)) (inRn (by omega)) (inRn (by omega)) h5 h6 ⟨fun z => absurd z (by omega), fun _ => ?_⟩
      refine GoA.fl (ls' := [some (.inr (2, B, 2)), some (.inr (2, B, 23)), some (.inl (1, (a : Int))), some (.inl (1, (n : Int))), some (.inl (1, (l : Int))), some (.inl (1, ((0 : Nat) : Int))), some (.inl (1, 1))]) rfl rfl ?_
      exact inner sz 0 1 (by omega) ⟨by omega, by omega⟩ (by omega) (fun j y hj _ => absurd hj (by omega))
  refine callZ_fl (as' := [.inr (2, B, 2), .inr (2, B, 23), .inl (1, (a : Int))]) rfl ?_
  refine callZ_of rfl (b_find_23 hB (inRn (by omega)) ?_)
  intro v3 e3 _
  rw [e3, hroot]
  have r348 : r < 348 := wfT_V hw r (fpT_self _ _ _)
  refine GoA.fl (ls' := [some (.inr (2, B, 2)), some (.inr (2, B, 23)), some (.inl (1, (a : Int))), some (.inl (1, (r : Int))), some (.inl (1, ((0 : Nat) : Int))), none, none]) rfl rfl ?_
  exact outer h 0 r I none none okO_n okO_n (by omega) ⟨fun _ _ _ _ => rfl, fun _ _ => rfl, fun j hj => absurd hj (by omega)⟩ rfl hw (fun _ hm => hm)
set_option maxHeartbeats 2000000 in
theorem c_find_20 {B a h r : Nat} {I : Mm} {K : Int → Mm → Prop} {fa : Nat} (hB : isX B) (ha : 4 * a + 4 ≤ 2560) (hsz : szOK I B) (hroot : rd I (B + 2) 8 = r) (hw : wfT (fun m => m < 348) (nsC I B) h r) (hn : ∀ m ∈ fpT (nsC I B) h r, ∀ q ∈ tks I B m, 0 ≤ q ∧ q < 648) (hh : h ≤ 11)
    (hK : ∀ (d : Nat) (x : Int) (I' : Mm), (∀ c, c ≠ B + 2 → c ≠ B + 10 → c ≠ B + 11 → I' c = I c) → (∀ k, k ≠ 11 → rd I' (B + 2) k = rd I (B + 2) k) → rd I' (B + 2) 11 = d → d ≤ h →
      (∀ j, j ≤ d → rd I' (B + 10) j = pthT (nsC I B) (sJ I' B) r j ∧ rd I' (B + 11) j = sJ I' B j ∧ sJ I' B j = kc (en4 (rd I (B + 21)) a) (kys I B (pthT (nsC I B) (sJ I' B) r j))) →
      (∀ j, j < d → hit (en4 (rd I (B + 21)) a) (kys I B (pthT (nsC I B) (sJ I' B) r j)) = false) →
      ((x = 1 ∧ hit (en4 (rd I (B + 21)) a) (kys I B (pthT (nsC I B) (sJ I' B) r d)) = true) ∨ (x = 0 ∧ hit (en4 (rd I (B + 21)) a) (kys I B (pthT (nsC I B) (sJ I' B) r d)) = false ∧ d = h)) → K x I') : CallZ 71 [.inr (2, B, 2), .inr (2, B, 20), .inl (fa, (a : Int))] I K := by
  have outer : ∀ (g l n : Nat) (J : Mm) (m5 m6 : Option AV), okO m5 → okO m6 → l + g = h → FInv I J B r (en4 (rd I (B + 21)) a) l → n = pthT (nsC I B) (sJ J B) r l → wfT (fun m => m < 348) (nsC I B) g n → (∀ m ∈ fpT (nsC I B) g n, m ∈ fpT (nsC I B) h r) → GoA 71 8 [some (.inr (2, B, 2)), some (.inr (2, B, 20)), some (.inl (1, (a : Int))), some (.inl (1, (n : Int))), some (.inl (1, (l : Int))), m5, m6] [] J (rZ K) := by
    intro g
    induction g using Nat.strongRecOn with
    | ind g ih =>
      intro l n J m5 m6 h5 h6 hl hF hnp wn hin
      have hn348 : n < 348 := wfT_V wn n (fpT_self _ _ _)
      have hfn : n ∈ fpT (nsC I B) h r := hin n (fpT_self _ _ _)
      have fr8 : ∀ k, rd J (B + 8) k = rd I (B + 8) k := fun k => rd_of (hF.1 _ (by omega) (by omega) (by omega)) k
      have fr6 : ∀ k, rd J (B + 6) k = rd I (B + 6) k := fun k => rd_of (hF.1 _ (by omega) (by omega) (by omega)) k
      have frW : rd J (B + 21) = rd I (B + 21) := funext (fun k => rd_of (hF.1 _ (by omega) (by omega) (by omega)) k)
      have fr4 : rd J (B + 4) = rd I (B + 4) := funext (fun k => rd_of (hF.1 _ (by omega) (by omega) (by omega)) k)
      have szb := hsz n hn348
      obtain ⟨sz, hsz8⟩ : ∃ sz : Nat, rd I (B + 8) n = sz := ⟨(rd I (B + 8) n).toNat, by omega⟩
      rw [hsz8] at szb
      have hlen : (kys I B n).length = sz := by unfold kys; rw [List.length_map, tks_len, hsz8, Int.toNat_natCast]
      have ext : ∀ (k : Nat) (od : Int), kc (en4 (rd I (B + 21)) a) (kys I B n) = k → (od = 0 ↔ hit (en4 (rd I (B + 21)) a) (kys I B n) = true) → inR od → (0 ≤ (l : Int) ∧ (l : Int) < 12) ∧ (∀ I1, I1 = wt J (B + 10) ((l : Int)).toNat (n : Int) → (0 ≤ (l : Int) ∧ (l : Int) < 12) ∧ (∀ I2, I2 = wt I1 (B + 11) ((l : Int)).toNat (k : Int) → ∀ I3, I3 = wt I2 (B + 2) 11 (l : Int) → (od = 0 → (od = 0 → (rZ K) (some (.inl (2, 1))) I3) ∧ (¬ od = 0 → (rZ K) (some (.inl (2, 0))) I3)) ∧ (¬ od = 0 → (0 ≤ (wr ((n : Int) * 6)) ∧ (wr ((n : Int) * 6)) < 2088) ∧ ((rd I3 (B + 7) (wr ((n : Int) * 6)).toNat = (-1) → (od = 0 → (rZ K) (some (.inl (2, 1))) I3) ∧ (¬ od = 0 → (rZ K) (some (.inl (2, 0))) I3)) ∧ (¬ rd I3 (B + 7) (wr ((n : Int) * 6)).toNat = (-1) → (0 ≤ (wr (((n : Int) * 6) + (k : Int))) ∧ (wr (((n : Int) * 6) + (k : Int))) < 2088) ∧ (∀ v3_1, v3_1 = rd I3 (B + 7) (wr (((n : Int) * 6) + (k : Int))).toNat → inR v3_1 → ∀ v4_2, v4_2 = wr ((l : Int) + 1) → inR v4_2 → GoA 71 8 [some (.inr (2, B, 2)), some (.inr (2, B, 20)), some (.inl (1, (a : Int))), some (.inl (1, v3_1)), some (.inl (1, v4_2)), some (.inl (1, (k : Int))), some (.inl (1, od))] [] I3 (rZ K))))))) := by
        intro k od ek eo hod
        have kle : k ≤ sz := by have := kc_le (en4 (rd I (B + 21)) a) (kys I B n); omega
        refine ⟨by omega, ?_⟩
        rintro I1 rfl
        refine ⟨by omega, ?_⟩
        rintro I2 rfl
        rw [Int.toNat_natCast]
        intro I3 e3
        obtain ⟨s1, s2, s3, s4, s5, s6, s7⟩ := f_step (k := k) hF hnp hn348 (by omega) (by omega) e3
        have hcom : ∀ j, j ≤ l → rd I3 (B + 10) j = pthT (nsC I B) (sJ I3 B) r j ∧ rd I3 (B + 11) j = sJ I3 B j ∧ sJ I3 B j = kc (en4 (rd I (B + 21)) a) (kys I B (pthT (nsC I B) (sJ I3 B) r j)) := by
          intro j hj
          refine ⟨(s6 j hj).1, (s6 j hj).2, ?_⟩
          by_cases c : j = l
          · subst c
            rw [s4, s5, ek]
          · exact (s7 j (by omega)).1
        have fr7 : ∀ k, rd I3 (B + 7) k = rd I (B + 7) k := fun k => rd_of (s1 _ (by omega) (by omega) (by omega)) k
        refine ⟨fun z => ⟨fun _ => ?_, fun z2 => absurd z z2⟩, fun z => ?_⟩
        · exact hK l 1 I3 s1 s2 s3 (by omega) hcom (fun j hj => (s7 j hj).2) (Or.inl ⟨rfl, by rw [s4]; exact eo.mp z⟩)
        · have hf : hit (en4 (rd I (B + 21)) a) (kys I B n) = false := by
            cases hc : hit (en4 (rd I (B + 21)) a) (kys I B n) with
            | false => rfl
            | true => exact absurd (eo.mpr hc) z
          obtain ⟨c0, hc0, hc1, hc2⟩ := kids0 wn
          have r0 := (tcs_get hc0).1
          rw [wrn (6 * n) (by omega) (by omega), Int.toNat_natCast, fr7, show 6 * n = 6 * n + 0 by omega, r0]
          refine ⟨by omega, fun z3 => ⟨fun z4 => absurd z4 z, fun _ => ?_⟩, fun z3 => ?_⟩
          · have g0 : g = 0 := by
              by_cases c : g = 0
              · exact c
              · have := hc2 c; omega
            exact hK l 0 I3 s1 s2 s3 (by omega) hcom (fun j hj => (s7 j hj).2) (Or.inr ⟨rfl, by rw [s4]; exact hf, by omega⟩)
          · have g0 : g ≠ 0 := fun c => z3 (hc1 c)
            obtain ⟨g', rfl⟩ : ∃ g', g = g' + 1 := ⟨g - 1, by omega⟩
            have kl : k < (nsC I B n).2.length := by
              show k < (tcs I B n).length
              rw [tcs_len, hsz8, Int.toNat_natCast]; omega
            have hck : (nsC I B n).2[k]? = some ((nsC I B n).2[k]) := List.getElem?_eq_getElem kl
            have hcm := List.mem_of_getElem? hck
            have wc := wn.2.2 _ hcm
            have rk := (tcs_get (I := I) (B := B) (n := n) (k := k) hck).1
            rw [wrn (6 * n + k) (by omega) (by omega), Int.toNat_natCast, fr7, rk]
            obtain ⟨c, hcc⟩ : ∃ c : Nat, (nsC I B n).2[k] = (c : Int) := ⟨((nsC I B n).2[k]).toNat, by omega⟩
            rw [hcc] at wc hck hcm ⊢
            rw [Int.toNat_natCast] at wc
            refine ⟨by omega, fun v3 e3' _ v4 e4' _ => ?_⟩
            rw [wrn (l + 1) (by omega) (by omega)] at e4'
            rw [e3', e4']
            refine ih g' (by omega) (l + 1) c I3 _ _ (okO_s (okF_1 (inRn (by omega)) 1)) (okO_s (okF_1 hod 1)) (by omega) ⟨s1, s2, ?_⟩ ?_ wc.2 ?_
            · intro j hj
              refine ⟨(hcom j (by omega)).1, (hcom j (by omega)).2.1, (hcom j (by omega)).2.2, ?_⟩
              by_cases cj : j = l
              · subst cj; rw [s4]; exact hf
              · exact (s7 j (by omega)).2
            · show c = ((nsC I B (pthT (nsC I B) (sJ I3 B) r l)).2[sJ I3 B l]?.getD 0).toNat
              rw [s4, s5, hck]; rfl
            · intro m hm
              exact hin m (fpT_kid hcm (by rw [Int.toNat_natCast]; exact hm))
      have stop : ∀ (k : Nat) (od : Int), k < sz → inR od → od ≤ 0 → (∀ j y, j < k → (kys I B n)[j]? = some y → 0 < ecmp (en4 (rd I (B + 21)) a) y) → (∀ y, (kys I B n)[k]? = some y → od = ecmp (en4 (rd I (B + 21)) a) y) → GoA 71 21 [some (.inr (2, B, 2)), some (.inr (2, B, 20)), some (.inl (1, (a : Int))), some (.inl (1, (n : Int))), some (.inl (1, (l : Int))), some (.inl (1, (k : Int))), some (.inl (1, od))] [] J (rZ K) := by
        intro k od hk hod h0 hlo hy0
        refine b_find_20_21 hB (inRn (by omega)) (inRn (by omega)) (inRn (by omega)) (inRn (by omega)) hod ⟨by omega, fun c => ?_, fun c => ⟨fun c2 => ?_, fun c2 => absurd h0 c2⟩⟩
        · exfalso
          rw [Int.toNat_natCast, fr8, hsz8] at c
          omega
        · obtain ⟨y, hy⟩ : ∃ y, (kys I B n)[k]? = some y := ⟨_, List.getElem?_eq_getElem (by omega)⟩
          have z4 := hy0 y hy
          have ek : kc (en4 (rd I (B + 21)) a) (kys I B n) = k := kc_of (by omega) hlo (fun y' hy' => by rw [hy] at hy'; cases hy'; omega)
          refine ext k od ek ⟨fun z => ?_, fun z => ?_⟩ hod
          · rw [hit_iff, ek, hy]
            rw [(ecmp_zero (en4 (rd I (B + 21)) a) y).mp (by omega)]
          · have := hit_iff.mp z
            rw [ek, hy] at this
            cases this
            rw [z4]
            exact (ecmp_zero _ _).mpr rfl
      have inner : ∀ (v k : Nat) (od : Int), k + v = sz → inR od → 0 < od → (∀ j y, j < k → (kys I B n)[j]? = some y → 0 < ecmp (en4 (rd I (B + 21)) a) y) → GoA 71 21 [some (.inr (2, B, 2)), some (.inr (2, B, 20)), some (.inl (1, (a : Int))), some (.inl (1, (n : Int))), some (.inl (1, (l : Int))), some (.inl (1, (k : Int))), some (.inl (1, od))] [] J (rZ K) := by
        intro v
        induction v with
        | zero =>
          intro k od hkv hod h0 hlo
          refine b_find_20_21 hB (inRn (by omega)) (inRn (by omega)) (inRn (by omega)) (inRn (by omega)) hod ⟨by omega, fun c => ?_, fun c => ⟨fun c2 => absurd c2 (by omega), fun c2 => ?_⟩⟩
          · have ek : kc (en4 (rd I (B + 21)) a) (kys I B n) = k := kc_of (by omega) hlo (fun y hy => by rw [List.getElem?_eq_none (by omega)] at hy; cases hy)
            refine ext k od ek ⟨fun z => by omega, fun z => ?_⟩ hod
            have := hit_iff.mp z
            rw [ek, List.getElem?_eq_none (by omega)] at this
            cases this
          · exfalso
            rw [Int.toNat_natCast, fr8, hsz8] at c
            omega
        | succ v ihv =>
          intro k od hkv hod h0 hlo
          refine b_find_20_21 hB (inRn (by omega)) (inRn (by omega)) (inRn (by omega)) (inRn (by omega)) hod ⟨by omega, fun c => ?_, fun c => ⟨fun c2 => absurd c2 (by omega), fun c2 => ?_⟩⟩
          · exfalso
            rw [Int.toNat_natCast, fr8, hsz8] at c
            omega
          · rw [wrn (5 * n + k) (by omega) (by omega), Int.toNat_natCast, fr6]
            have kl : k < (rd I (B + 8) n).toNat := by rw [hsz8]; omega
            have qm : rd I (B + 6) (5 * n + k) ∈ tks I B n := List.mem_of_getElem? (tks_get kl)
            have qb := hn n hfn _ qm
            obtain ⟨q, hq⟩ : ∃ q : Nat, rd I (B + 6) (5 * n + k) = q := ⟨(rd I (B + 6) (5 * n + k)).toNat, by omega⟩
            refine ⟨by omega, ?_⟩
            rw [hq] at qb ⊢
            refine c_cmp_20_3 hB (by omega) (by omega) ?_
            rw [frW, fr4]
            have hy : (kys I B n)[k]? = some (en4 (rd I (B + 4)) q) := by
              rw [kys_get kl, hq]
              unfold ent
              rw [Int.toNat_natCast]
            intro v6 e6 i6
            refine ⟨fun z => ?_, fun z v5 e5 i5 => ?_⟩
            · exact stop k v6 (by omega) i6 z hlo (fun y hy' => by rw [hy] at hy'; cases hy'; exact e6)
            · rw [wrn (k + 1) (by omega) (by omega)] at e5
              rw [e5]
              refine ihv (k + 1) v6 (by omega) i6 (by omega) (fun j y hj hy' => ?_)
              by_cases cj : j = k
              · subst cj
                rw [hy] at hy'
                cases hy'
                omega
              · exact hlo j y (by omega) hy'
      refine b_find_20_8 hB (inRn (by omega)) (inRn (by omega)) (inRn (by omega)) h5 h6 ⟨fun z => absurd z (by omega), fun _ => ?_⟩
      refine GoA.fl (ls' := [some (.inr (2, B, 2)), some (.inr (2, B, 20)), some (.inl (1, (a : Int))), some (.inl (1, (n : Int))), some (.inl (1, (l : Int))), some (.inl (1, ((0 : Nat) : Int))), some (.inl (1, 1))]) rfl rfl ?_
      exact inner sz 0 1 (by omega) ⟨by omega, by omega⟩ (by omega) (fun j y hj _ => absurd hj (by omega))
  refine callZ_fl (as' := [.inr (2, B, 2), .inr (2, B, 20), .inl (1, (a : Int))]) rfl ?_
  refine callZ_of rfl (b_find_20 hB (inRn (by omega)) ?_)
  intro v3 e3 _
  rw [e3, hroot]
  have r348 : r < 348 := wfT_V hw r (fpT_self _ _ _)
  refine GoA.fl (ls' := [some (.inr (2, B, 2)), some (.inr (2, B, 20)), some (.inl (1, (a : Int))), some (.inl (1, (r : Int))), some (.inl (1, ((0 : Nat) : Int))), none, none]) rfl rfl ?_
  exact outer h 0 r I none none okO_n okO_n (by omega) ⟨fun _ _ _ _ => rfl, fun _ _ => rfl, fun j hj => absurd hj (by omega)⟩ rfl hw (fun _ hm => hm)
set_option maxHeartbeats 2000000 in
theorem c_find_16 {B a h r : Nat} {I : Mm} {K : Int → Mm → Prop} {fa : Nat} (hB : isX B) (ha : 4 * a + 4 ≤ 1200) (hsz : szOK I B) (hroot : rd I (B + 2) 8 = r) (hw : wfT (fun m => m < 348) (nsC I B) h r) (hn : ∀ m ∈ fpT (nsC I B) h r, ∀ q ∈ tks I B m, 0 ≤ q ∧ q < 648) (hh : h ≤ 11)
    (hK : ∀ (d : Nat) (x : Int) (I' : Mm), (∀ c, c ≠ B + 2 → c ≠ B + 10 → c ≠ B + 11 → I' c = I c) → (∀ k, k ≠ 11 → rd I' (B + 2) k = rd I (B + 2) k) → rd I' (B + 2) 11 = d → d ≤ h →
      (∀ j, j ≤ d → rd I' (B + 10) j = pthT (nsC I B) (sJ I' B) r j ∧ rd I' (B + 11) j = sJ I' B j ∧ sJ I' B j = kc (en4 (rd I (B + 17)) a) (kys I B (pthT (nsC I B) (sJ I' B) r j))) →
      (∀ j, j < d → hit (en4 (rd I (B + 17)) a) (kys I B (pthT (nsC I B) (sJ I' B) r j)) = false) →
      ((x = 1 ∧ hit (en4 (rd I (B + 17)) a) (kys I B (pthT (nsC I B) (sJ I' B) r d)) = true) ∨ (x = 0 ∧ hit (en4 (rd I (B + 17)) a) (kys I B (pthT (nsC I B) (sJ I' B) r d)) = false ∧ d = h)) → K x I') : CallZ 71 [.inr (2, B, 2), .inr (2, B, 16), .inl (fa, (a : Int))] I K := by
  have outer : ∀ (g l n : Nat) (J : Mm) (m5 m6 : Option AV), okO m5 → okO m6 → l + g = h → FInv I J B r (en4 (rd I (B + 17)) a) l → n = pthT (nsC I B) (sJ J B) r l → wfT (fun m => m < 348) (nsC I B) g n → (∀ m ∈ fpT (nsC I B) g n, m ∈ fpT (nsC I B) h r) → GoA 71 8 [some (.inr (2, B, 2)), some (.inr (2, B, 16)), some (.inl (1, (a : Int))), some (.inl (1, (n : Int))), some (.inl (1, (l : Int))), m5, m6] [] J (rZ K) := by
    intro g
    induction g using Nat.strongRecOn with
    | ind g ih =>
      intro l n J m5 m6 h5 h6 hl hF hnp wn hin
      have hn348 : n < 348 := wfT_V wn n (fpT_self _ _ _)
      have hfn : n ∈ fpT (nsC I B) h r := hin n (fpT_self _ _ _)
      have fr8 : ∀ k, rd J (B + 8) k = rd I (B + 8) k := fun k => rd_of (hF.1 _ (by omega) (by omega) (by omega)) k
      have fr6 : ∀ k, rd J (B + 6) k = rd I (B + 6) k := fun k => rd_of (hF.1 _ (by omega) (by omega) (by omega)) k
      have frW : rd J (B + 17) = rd I (B + 17) := funext (fun k => rd_of (hF.1 _ (by omega) (by omega) (by omega)) k)
      have fr4 : rd J (B + 4) = rd I (B + 4) := funext (fun k => rd_of (hF.1 _ (by omega) (by omega) (by omega)) k)
      have szb := hsz n hn348
      obtain ⟨sz, hsz8⟩ : ∃ sz : Nat, rd I (B + 8) n = sz := ⟨(rd I (B + 8) n).toNat, by omega⟩
      rw [hsz8] at szb
      have hlen : (kys I B n).length = sz := by unfold kys; rw [List.length_map, tks_len, hsz8, Int.toNat_natCast]
      have ext : ∀ (k : Nat) (od : Int), kc (en4 (rd I (B + 17)) a) (kys I B n) = k → (od = 0 ↔ hit (en4 (rd I (B + 17)) a) (kys I B n) = true) → inR od → (0 ≤ (l : Int) ∧ (l : Int) < 12) ∧ (∀ I1, I1 = wt J (B + 10) ((l : Int)).toNat (n : Int) → (0 ≤ (l : Int) ∧ (l : Int) < 12) ∧ (∀ I2, I2 = wt I1 (B + 11) ((l : Int)).toNat (k : Int) → ∀ I3, I3 = wt I2 (B + 2) 11 (l : Int) → (od = 0 → (od = 0 → (rZ K) (some (.inl (2, 1))) I3) ∧ (¬ od = 0 → (rZ K) (some (.inl (2, 0))) I3)) ∧ (¬ od = 0 → (0 ≤ (wr ((n : Int) * 6)) ∧ (wr ((n : Int) * 6)) < 2088) ∧ ((rd I3 (B + 7) (wr ((n : Int) * 6)).toNat = (-1) → (od = 0 → (rZ K) (some (.inl (2, 1))) I3) ∧ (¬ od = 0 → (rZ K) (some (.inl (2, 0))) I3)) ∧ (¬ rd I3 (B + 7) (wr ((n : Int) * 6)).toNat = (-1) → (0 ≤ (wr (((n : Int) * 6) + (k : Int))) ∧ (wr (((n : Int) * 6) + (k : Int))) < 2088) ∧ (∀ v3_1, v3_1 = rd I3 (B + 7) (wr (((n : Int) * 6) + (k : Int))).toNat → inR v3_1 → ∀ v4_2, v4_2 = wr ((l : Int) + 1) → inR v4_2 → GoA 71 8 [some (.inr (2, B, 2)), some (.inr (2, B, 16)), some (.inl (1, (a : Int))), some (.inl (1, v3_1)), some (.inl (1, v4_2)), some (.inl (1, (k : Int))), some (.inl (1, od))] [] I3 (rZ K))))))) := by
        intro k od ek eo hod
        have kle : k ≤ sz := by have := kc_le (en4 (rd I (B + 17)) a) (kys I B n); omega
        refine ⟨by omega, ?_⟩
        rintro I1 rfl
        refine ⟨by omega, ?_⟩
        rintro I2 rfl
        rw [Int.toNat_natCast]
        intro I3 e3
        obtain ⟨s1, s2, s3, s4, s5, s6, s7⟩ := f_step (k := k) hF hnp hn348 (by omega) (by omega) e3
        have hcom : ∀ j, j ≤ l → rd I3 (B + 10) j = pthT (nsC I B) (sJ I3 B) r j ∧ rd I3 (B + 11) j = sJ I3 B j ∧ sJ I3 B j = kc (en4 (rd I (B + 17)) a) (kys I B (pthT (nsC I B) (sJ I3 B) r j)) := by
          intro j hj
          refine ⟨(s6 j hj).1, (s6 j hj).2, ?_⟩
          by_cases c : j = l
          · subst c
            rw [s4, s5, ek]
          · exact (s7 j (by omega)).1
        have fr7 : ∀ k, rd I3 (B + 7) k = rd I (B + 7) k := fun k => rd_of (s1 _ (by omega) (by omega) (by omega)) k
        refine ⟨fun z => ⟨fun _ => ?_, fun z2 => absurd z z2⟩, fun z => ?_⟩
        · exact hK l 1 I3 s1 s2 s3 (by omega) hcom (fun j hj => (s7 j hj).2) (Or.inl ⟨rfl, by rw [s4]; exact eo.mp z⟩)
        · have hf : hit (en4 (rd I (B + 17)) a) (kys I B n) = false := by
            cases hc : hit (en4 (rd I (B + 17)) a) (kys I B n) with
            | false => rfl
            | true => exact absurd (eo.mpr hc) z
          obtain ⟨c0, hc0, hc1, hc2⟩ := kids0 wn
          have r0 := (tcs_get hc0).1
          rw [wrn (6 * n) (by omega) (by omega), Int.toNat_natCast, fr7, show 6 * n = 6 * n + 0 by omega, r0]
          refine ⟨by omega, fun z3 => ⟨fun z4 => absurd z4 z, fun _ => ?_⟩, fun z3 => ?_⟩
          · have g0 : g = 0 := by
              by_cases c : g = 0
              · exact c
              · have := hc2 c; omega
            exact hK l 0 I3 s1 s2 s3 (by omega) hcom (fun j hj => (s7 j hj).2) (Or.inr ⟨rfl, by rw [s4]; exact hf, by omega⟩)
          · have g0 : g ≠ 0 := fun c => z3 (hc1 c)
            obtain ⟨g', rfl⟩ : ∃ g', g = g' + 1 := ⟨g - 1, by omega⟩
            have kl : k < (nsC I B n).2.length := by
              show k < (tcs I B n).length
              rw [tcs_len, hsz8, Int.toNat_natCast]; omega
            have hck : (nsC I B n).2[k]? = some ((nsC I B n).2[k]) := List.getElem?_eq_getElem kl
            have hcm := List.mem_of_getElem? hck
            have wc := wn.2.2 _ hcm
            have rk := (tcs_get (I := I) (B := B) (n := n) (k := k) hck).1
            rw [wrn (6 * n + k) (by omega) (by omega), Int.toNat_natCast, fr7, rk]
            obtain ⟨c, hcc⟩ : ∃ c : Nat, (nsC I B n).2[k] = (c : Int) := ⟨((nsC I B n).2[k]).toNat, by omega⟩
            rw [hcc] at wc hck hcm ⊢
            rw [Int.toNat_natCast] at wc
            refine ⟨by omega, fun v3 e3' _ v4 e4' _ => ?_⟩
            rw [wrn (l + 1) (by omega) (by omega)] at e4'
            rw [e3', e4']
            refine ih g' (by omega) (l + 1) c I3 _ _ (okO_s (okF_1 (inRn (by omega)) 1)) (okO_s (okF_1 hod 1)) (by omega) ⟨s1, s2, ?_⟩ ?_ wc.2 ?_
            · intro j hj
              refine ⟨(hcom j (by omega)).1, (hcom j (by omega)).2.1, (hcom j (by omega)).2.2, ?_⟩
              by_cases cj : j = l
              · subst cj; rw [s4]; exact hf
              · exact (s7 j (by omega)).2
            · show c = ((nsC I B (pthT (nsC I B) (sJ I3 B) r l)).2[sJ I3 B l]?.getD 0).toNat
              rw [s4, s5, hck]; rfl
            · intro m hm
              exact hin m (fpT_kid hcm (by rw [Int.toNat_natCast]; exact hm))
      have stop : ∀ (k : Nat) (od : Int), k < sz → inR od → od ≤ 0 → (∀ j y, j < k → (kys I B n)[j]? = some y → 0 < ecmp (en4 (rd I (B + 17)) a) y) → (∀ y, (kys I B n)[k]? = some y → od = ecmp (en4 (rd I (B + 17)) a) y) → GoA 71 21 [some (.inr (2, B, 2)), some (.inr (2, B, 16)), some (.inl (1, (a : Int))), some (.inl (1, (n : Int))), some (.inl (1, (l : Int))), some (.inl (1, (k : Int))), some (.inl (1, od))] [] J (rZ K) := by
        intro k od hk hod h0 hlo hy0
        refine b_find_16_21 hB (inRn (by omega)) (inRn (by omega)) (inRn (by omega)) (inRn (by omega)) hod ⟨by omega, fun c => ?_, fun c => ⟨fun c2 => ?_, fun c2 => absurd h0 c2⟩⟩
        · exfalso
          rw [Int.toNat_natCast, fr8, hsz8] at c
          omega
        · obtain ⟨y, hy⟩ : ∃ y, (kys I B n)[k]? = some y := ⟨_, List.getElem?_eq_getElem (by omega)⟩
          have z4 := hy0 y hy
          have ek : kc (en4 (rd I (B + 17)) a) (kys I B n) = k := kc_of (by omega) hlo (fun y' hy' => by rw [hy] at hy'; cases hy'; omega)
          refine ext k od ek ⟨fun z => ?_, fun z => ?_⟩ hod
          · rw [hit_iff, ek, hy]
            rw [(ecmp_zero (en4 (rd I (B + 17)) a) y).mp (by omega)]
          · have := hit_iff.mp z
            rw [ek, hy] at this
            cases this
            rw [z4]
            exact (ecmp_zero _ _).mpr rfl
      have inner : ∀ (v k : Nat) (od : Int), k + v = sz → inR od → 0 < od → (∀ j y, j < k → (kys I B n)[j]? = some y → 0 < ecmp (en4 (rd I (B + 17)) a) y) → GoA 71 21 [some (.inr (2, B, 2)), some (.inr (2, B, 16)), some (.inl (1, (a : Int))), some (.inl (1, (n : Int))), some (.inl (1, (l : Int))), some (.inl (1, (k : Int))), some (.inl (1, od))] [] J (rZ K) := by
        intro v
        induction v with
        | zero =>
          intro k od hkv hod h0 hlo
          refine b_find_16_21 hB (inRn (by omega)) (inRn (by omega)) (inRn (by omega)) (inRn (by omega)) hod ⟨by omega, fun c => ?_, fun c => ⟨fun c2 => absurd c2 (by omega), fun c2 => ?_⟩⟩
          · have ek : kc (en4 (rd I (B + 17)) a) (kys I B n) = k := kc_of (by omega) hlo (fun y hy => by rw [List.getElem?_eq_none (by omega)] at hy; cases hy)
            refine ext k od ek ⟨fun z => by omega, fun z => ?_⟩ hod
            have := hit_iff.mp z
            rw [ek, List.getElem?_eq_none (by omega)] at this
            cases this
          · exfalso
            rw [Int.toNat_natCast, fr8, hsz8] at c
            omega
        | succ v ihv =>
          intro k od hkv hod h0 hlo
          refine b_find_16_21 hB (inRn (by omega)) (inRn (by omega)) (inRn (by omega)) (inRn (by omega)) hod ⟨by omega, fun c => ?_, fun c => ⟨fun c2 => absurd c2 (by omega), fun c2 => ?_⟩⟩
          · exfalso
            rw [Int.toNat_natCast, fr8, hsz8] at c
            omega
          · rw [wrn (5 * n + k) (by omega) (by omega), Int.toNat_natCast, fr6]
            have kl : k < (rd I (B + 8) n).toNat := by rw [hsz8]; omega
            have qm : rd I (B + 6) (5 * n + k) ∈ tks I B n := List.mem_of_getElem? (tks_get kl)
            have qb := hn n hfn _ qm
            obtain ⟨q, hq⟩ : ∃ q : Nat, rd I (B + 6) (5 * n + k) = q := ⟨(rd I (B + 6) (5 * n + k)).toNat, by omega⟩
            refine ⟨by omega, ?_⟩
            rw [hq] at qb ⊢
            refine c_cmp_16_3 hB (by omega) (by omega) ?_
            rw [frW, fr4]
            have hy : (kys I B n)[k]? = some (en4 (rd I (B + 4)) q) := by
              rw [kys_get kl, hq]
              unfold ent
              rw [Int.toNat_natCast]
            intro v6 e6 i6
            refine ⟨fun z => ?_, fun z v5 e5 i5 => ?_⟩
            · exact stop k v6 (by omega) i6 z hlo (fun y hy' => by rw [hy] at hy'; cases hy'; exact e6)
            · rw [wrn (k + 1) (by omega) (by omega)] at e5
              rw [e5]
              refine ihv (k + 1) v6 (by omega) i6 (by omega) (fun j y hj hy' => ?_)
              by_cases cj : j = k
              · subst cj
                rw [hy] at hy'
                cases hy'
                omega
              · exact hlo j y (by omega) hy'
      refine b_find_16_8 hB (inRn (by omega)) (inRn (by omega)) (inRn (by omega)) h5 h6 ⟨fun z => absurd z (by omega), fun _ => ?_⟩
      refine GoA.fl (ls' := [some (.inr (2, B, 2)), some (.inr (2, B, 16)), some (.inl (1, (a : Int))), some (.inl (1, (n : Int))), some (.inl (1, (l : Int))), some (.inl (1, ((0 : Nat) : Int))), some (.inl (1, 1))]) rfl rfl ?_
      exact inner sz 0 1 (by omega) ⟨by omega, by omega⟩ (by omega) (fun j y hj _ => absurd hj (by omega))
  refine callZ_fl (as' := [.inr (2, B, 2), .inr (2, B, 16), .inl (1, (a : Int))]) rfl ?_
  refine callZ_of rfl (b_find_16 hB (inRn (by omega)) ?_)
  intro v3 e3 _
  rw [e3, hroot]
  have r348 : r < 348 := wfT_V hw r (fpT_self _ _ _)
  refine GoA.fl (ls' := [some (.inr (2, B, 2)), some (.inr (2, B, 16)), some (.inl (1, (a : Int))), some (.inl (1, (r : Int))), some (.inl (1, ((0 : Nat) : Int))), none, none]) rfl rfl ?_
  exact outer h 0 r I none none okO_n okO_n (by omega) ⟨fun _ _ _ _ => rfl, fun _ _ => rfl, fun j hj => absurd hj (by omega)⟩ rfl hw (fun _ hm => hm)
