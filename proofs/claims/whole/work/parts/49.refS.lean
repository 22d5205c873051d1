/-! THE REFERENCE: joining and settling -/
section SGB
variable {α : Type}
theorem sgA_dl {f f' : Nat → α} {b n : Nat} (hn : 0 < n) (h : ∀ j, j + 1 < n → f' (b + j) = f (b + j)) : sgA f' b (n - 1) = (sgA f b n).dropLast := by
  apply sgA_ext
  · rw [List.length_dropLast, sgA_len]
  · intro k hk
    rw [List.getElem?_dropLast, sgA_len, if_pos hk, sgA_get f b (by omega), h k (by omega)]
theorem sgA_cn {f f' : Nat → α} {b n : Nat} {x : α} (h0 : f' b = x) (h : ∀ j, j < n → f' (b + (j + 1)) = f (b + j)) : sgA f' b (n + 1) = x :: sgA f b n := by
  apply sgA_ext
  · simp [sgA_len]
  · intro k hk
    cases k with
    | zero => simp [h0]
    | succ k => rw [List.getElem?_cons_succ, sgA_get f b (by omega), h k (by omega)]
theorem sgA_sn {f f' : Nat → α} {b n : Nat} {x : α} (h0 : f' (b + n) = x) (h : ∀ j, j < n → f' (b + j) = f (b + j)) : sgA f' b (n + 1) = sgA f b n ++ [x] := by
  apply sgA_ext
  · simp [sgA_len]
  · intro k hk
    by_cases c : k < n
    · rw [List.getElem?_append_left (by rw [sgA_len]; exact c), sgA_get f b c, h k c]
    · have : k = n := by omega
      subst this
      rw [List.getElem?_append_right (by rw [sgA_len]; exact Nat.le_refl _), sgA_len, Nat.sub_self, h0]
      rfl
theorem sgA_jn {f f' : Nat → α} {b c n m : Nat} {x : α} (h1 : ∀ j, j < n → f' (b + j) = f (b + j)) (h2 : f' (b + n) = x) (h3 : ∀ j, j < m → f' (b + (n + 1 + j)) = f (c + j)) : sgA f' b (n + 1 + m) = sgA f b n ++ x :: sgA f c m := by
  apply sgA_ext
  · simp [sgA_len]; omega
  · intro k hk
    by_cases ck : k < n
    · rw [List.getElem?_append_left (by rw [sgA_len]; exact ck), sgA_get f b ck, h1 k ck]
    · rw [List.getElem?_append_right (by rw [sgA_len]; omega), sgA_len]
      by_cases ce : k = n
      · subst ce
        rw [Nat.sub_self, h2]
        rfl
      · obtain ⟨j, hj⟩ : ∃ j, k = n + 1 + j := ⟨k - (n + 1), by omega⟩
        subst hj
        rw [show n + 1 + j - n = j + 1 by omega, List.getElem?_cons_succ, sgA_get f c (by omega), h3 j (by omega)]
theorem remL_0 (l : List α) : remL l 0 = l.tail := by
  unfold remL
  rw [List.take_zero, List.nil_append]
  exact List.drop_one
end SGB
/-- what settling leaves as it was -/
def SFr (J J' : Mm) : Prop := (∀ c, c ≠ 212 → c ≠ 242 → c ≠ 243 → c ≠ 244 → c ≠ 245 → c ≠ 246 → c ≠ 250 → J' c = J c) ∧ ∀ k, k ≠ 41 → rd J' 212 k = rd J 212 k
set_option maxHeartbeats 4000000 in
theorem c_rjoin {J : Mm} {K : Mm → Prop} {p k l r sp sl sr fa fb fc fd : Nat} (hc : cnOK J) (hp : p < 2160) (hl : l < 2160) (hr : r < 2160) (pl : p ≠ l) (pr : p ≠ r) (lr : l ≠ r) (hsp : rd J 243 p = sp) (hsp5 : sp ≤ 5) (hsl : rd J 243 l = sl) (hsr : rd J 243 r = sr) (h5 : sl + 1 + sr ≤ 5) (hk : k < sp)
    (hK : ∀ J' : Mm, SFr J J' → cnOK J' → (∀ m, rd J' 242 m = if m = r then 0 else rd J 242 m) → nsR J' p = (remL (nsR J p).1 k, remL (nsR J p).2 (k + 1)) → nsR J' l = ((nsR J l).1 ++ sE J (5 * p + k) :: (nsR J r).1, (nsR J l).2 ++ (nsR J r).2) → (∀ m, m < 2160 → m ≠ p → m ≠ l → nsR J' m = nsR J m) → rd J' 243 p = sp - 1 → K J') : CallV 156 [.inr (3, 0, 0), .inl (fa, (p : Int)), .inl (fb, (k : Int)), .inl (fc, (l : Int)), .inl (fd, (r : Int))] J K := by
  have kids : ∀ (d j : Nat) (I : Mm), j + d = sr + 1 → (∀ c, c ≠ 244 → c ≠ 245 → c ≠ 246 → I c = J c) → (∀ x, (x < 5 * l ∨ 5 * l + 5 ≤ x) → sE I x = sE J x) → (∀ x, x < sl → sE I (5 * l + x) = sE J (5 * l + x)) → sE I (5 * l + sl) = sE J (5 * p + k) → (∀ x, x < sr → sE I (5 * l + (sl + 1 + x)) = sE J (5 * r + x)) → (∀ x, (x < 6 * l + sl + 1 ∨ 6 * l + 6 ≤ x) → rd I 246 x = rd J 246 x) → (∀ x, x < j → rd I 246 (6 * l + (sl + 1) + x) = rd J 246 (6 * r + x)) → GoA 156 73 [some (.inr (3, 0, 0)), some (.inl (1, (p : Int))), some (.inl (1, (k : Int))), some (.inl (1, (l : Int))), some (.inl (1, (r : Int))), some (.inl (1, ((sl + 1 : Nat) : Int))), some (.inl (1, (j : Int)))] [] I (rV K) := by
    intro d
    induction d with
    | zero =>
      intro j I hj f1 f2 f3 f4 f5 f6 f7
      have rr : rd I 243 r = sr := by rw [rd_of (f1 _ (by omega) (by omega) (by omega)), hsr]
      refine b_r_join_73 (inRn (by omega)) (inRn (by omega)) (inRn (by omega)) (inRn (by omega)) (inRn (by omega)) (inRn (by omega)) ?_
      rw [Int.toNat_natCast, Int.toNat_natCast, rr]
      refine ⟨by omega, fun _ => ⟨by omega, by omega, ?_⟩, fun z => absurd (by omega) z⟩
      intro I1 e1
      refine ⟨by omega, ?_⟩
      intro I2 e2
      rw [show (k : Int) + 1 = ((k + 1 : Nat) : Int) by omega]
      have c2 : ∀ m, rd I2 243 m = if m = l then ((sl + 1 + sr : Nat) : Int) else rd J 243 m := fun m => by
        rw [e2, rd_wt_a _ _ _ _ (by omega), e1, rd_wt, if_pos rfl, wrn (sl + 1 + sr) (by omega) (by omega), rd_of (f1 _ (by omega) (by omega) (by omega))]
      have s2 : ∀ x, sE I2 x = sE I x := fun x => sE_of (by rw [e2, wt_a _ _ _ _ (by omega), e1, wt_a _ _ _ _ (by omega)]) (by rw [e2, wt_a _ _ _ _ (by omega), e1, wt_a _ _ _ _ (by omega)]) x
      have k2 : ∀ x, rd I2 246 x = rd I 246 x := fun x => by rw [e2, rd_wt_a _ _ _ _ (by omega), e1, rd_wt_a _ _ _ _ (by omega)]
      have nf2 : NFr J I2 l := ⟨fun x hx => by rw [s2, f2 x hx], fun x hx => by rw [k2, f6 x (by omega)], fun m hm => by rw [c2, if_neg hm]⟩
      have cn2 : cnOK I2 := by
        intro m hm
        rw [c2]
        by_cases c : m = l
        · rw [if_pos c]; omega
        · rw [if_neg c]; exact hc m hm
      have l2 : nsR I2 l = ((nsR J l).1 ++ sE J (5 * p + k) :: (nsR J r).1, (nsR J l).2 ++ (nsR J r).2) := by
        unfold nsR
        congr 1
        · unfold rks
          rw [c2, if_pos rfl, hsl, hsr, Int.toNat_natCast, Int.toNat_natCast, Int.toNat_natCast]
          exact sgA_jn (fun x hx => by rw [s2, f3 x hx]) (by rw [s2, f4]) (fun x hx => by rw [s2, f5 x hx])
        · unfold rcs
          rw [c2, if_pos rfl, hsl, hsr, Int.toNat_natCast, Int.toNat_natCast, Int.toNat_natCast, show sl + 1 + sr + 1 = sl + 1 + (sr + 1) by omega]
          exact seg_jn (fun x hx => by rw [k2, f6 _ (by omega)]) (fun x hx => by rw [k2, f7 x (by omega)])
      refine c_rtakeOut (s := sp) hp (by rw [c2, if_neg pl, hsp]) hsp5 hk (by omega) ?_
      intro I3 g1 g2 g3 g4 g5
      have p2 : nsR I2 p = nsR J p := nsR_off nf2 hc hp pl
      refine hK I3 ⟨fun c a0 a2 a3 a4 a5 a6 a7 => by rw [g1 c a3 a4 a5 a6, e2, wt_a _ _ _ _ a2, e1, wt_a _ _ _ _ a3, f1 c a4 a5 a6], fun x _ => by rw [rd_of (g1 _ (by omega) (by omega) (by omega) (by omega)), e2, rd_wt_a _ _ _ _ (by omega), e1, rd_wt_a _ _ _ _ (by omega), rd_of (f1 _ (by omega) (by omega) (by omega))]⟩ ?_ (fun m => ?_) ?_ ?_ ?_ g3
      · intro m hm
        by_cases c : m = p
        · subst c; rw [g3]; omega
        · rw [g2.2.2 m c]; exact cn2 m hm
      · rw [rd_of (g1 _ (by omega) (by omega) (by omega) (by omega)), e2, rd_wt, if_pos rfl, wrx (by omega) (by omega), e1, rd_wt_a _ _ _ _ (by omega), rd_of (f1 _ (by omega) (by omega) (by omega))]
      · show (rks I3 p, rcs I3 p) = _
        rw [g4, g5]
        show (remL (nsR I2 p).1 k, remL (nsR I2 p).2 (k + 1)) = _
        rw [p2]
      · rw [nsR_off g2 cn2 hl (Ne.symm pl), l2]
      · intro m hm cp cl
        rw [nsR_off g2 cn2 hm cp, nsR_off nf2 hc hm cl]
    | succ d ih =>
      intro j I hj f1 f2 f3 f4 f5 f6 f7
      have rr : rd I 243 r = sr := by rw [rd_of (f1 _ (by omega) (by omega) (by omega)), hsr]
      refine b_r_join_73 (inRn (by omega)) (inRn (by omega)) (inRn (by omega)) (inRn (by omega)) (inRn (by omega)) (inRn (by omega)) ?_
      have wa : wr (6 * (r : Int) + (j : Int)) = ((6 * r + j : Nat) : Int) := wrn _ (by omega) (by omega)
      have wb : wr (6 * (l : Int) + ((sl + 1 : Nat) : Int) + (j : Int)) = ((6 * l + (sl + 1) + j : Nat) : Int) := wrn _ (by omega) (by omega)
      rw [Int.toNat_natCast, rr, wa, wb]
      simp only [Int.toNat_natCast]
      refine ⟨by omega, fun z => absurd z (by omega), fun _ => ⟨by omega, by omega, ?_⟩⟩
      intro I4 e4 v ev _
      rw [wrn (j + 1) (by omega) (by omega)] at ev
      subst ev
      have s4 : ∀ x, sE I4 x = sE I x := fun x => sE_of (by rw [e4, wt_a _ _ _ _ (by omega)]) (by rw [e4, wt_a _ _ _ _ (by omega)]) x
      have src : rd I 246 (6 * r + j) = rd J 246 (6 * r + j) := f6 _ (by omega)
      have k4 : ∀ x, rd I4 246 x = if x = 6 * l + (sl + 1) + j then rd J 246 (6 * r + j) else rd I 246 x := fun x => by rw [e4, rd_wt, if_pos rfl, wr_of (rd_in _ _ _), src]
      refine ih (j + 1) I4 (by omega) (fun c a4 a5 a6 => by rw [e4, wt_a _ _ _ _ a6, f1 c a4 a5 a6]) (fun x hx => by rw [s4, f2 x hx]) (fun x hx => by rw [s4, f3 x hx]) (by rw [s4, f4]) (fun x hx => by rw [s4, f5 x hx]) (fun x hx => by rw [k4, if_neg (by omega), f6 x hx]) (fun x hx => ?_)
      by_cases c : x = j
      · subst c; rw [k4, if_pos rfl]
      · rw [k4, if_neg (by omega), f7 x (by omega)]
  have keys : ∀ (d j : Nat) (I : Mm), j + d = sr → (∀ c, c ≠ 244 → c ≠ 245 → I c = J c) → (∀ x, (x < 5 * l ∨ 5 * l + 5 ≤ x) → sE I x = sE J x) → (∀ x, x < sl → sE I (5 * l + x) = sE J (5 * l + x)) → sE I (5 * l + sl) = sE J (5 * p + k) → (∀ x, x < j → sE I (5 * l + (sl + 1 + x)) = sE J (5 * r + x)) → GoA 156 32 [some (.inr (3, 0, 0)), some (.inl (1, (p : Int))), some (.inl (1, (k : Int))), some (.inl (1, (l : Int))), some (.inl (1, (r : Int))), some (.inl (1, ((sl + 1 : Nat) : Int))), some (.inl (1, (j : Int)))] [] I (rV K) := by
    intro d
    induction d with
    | zero =>
      intro j I hj f1 f2 f3 f4 f5
      have rr : rd I 243 r = sr := by rw [rd_of (f1 _ (by omega) (by omega)), hsr]
      refine b_r_join_32 (inRn (by omega)) (inRn (by omega)) (inRn (by omega)) (inRn (by omega)) (inRn (by omega)) (inRn (by omega)) ?_
      rw [Int.toNat_natCast, rr]
      refine ⟨by omega, fun _ => ?_, fun z => absurd (by omega) z⟩
      have e : j = sr := by omega
      subst e
      exact kids (j + 1) 0 I (by omega) (fun c a4 a5 _ => f1 c a4 a5) f2 f3 f4 f5 (fun x _ => rd_of (f1 _ (by omega) (by omega)) x) (fun x hx => absurd hx (by omega))
    | succ d ih =>
      intro j I hj f1 f2 f3 f4 f5
      have rr : rd I 243 r = sr := by rw [rd_of (f1 _ (by omega) (by omega)), hsr]
      refine b_r_join_32 (inRn (by omega)) (inRn (by omega)) (inRn (by omega)) (inRn (by omega)) (inRn (by omega)) (inRn (by omega)) ?_
      rw [Int.toNat_natCast, rr]
      refine ⟨by omega, fun z => absurd z (by omega), fun _ => ?_⟩
      rw [show 5 * (r : Int) + (j : Int) = ((5 * r + j : Nat) : Int) by omega, show 5 * (l : Int) + ((sl + 1 : Nat) : Int) + (j : Int) = ((5 * l + (sl + 1 + j) : Nat) : Int) by omega]
      refine c_copySlot (by omega) (by omega) ?_
      intro I1 g1 g2 g3 v ev _
      rw [wrn (j + 1) (by omega) (by omega)] at ev
      subst ev
      refine ih (j + 1) I1 (by omega) (fun c a4 a5 => by rw [g1 c a4 a5, f1 c a4 a5]) (fun x hx => by rw [g3 x (by omega), f2 x hx]) (fun x hx => by rw [g3 _ (by omega), f3 x hx]) (by rw [g3 _ (by omega), f4]) (fun x hx => ?_)
      by_cases c : x = j
      · subst c; rw [g2, f2 _ (by omega)]
      · rw [g3 _ (by omega), f5 x (by omega)]
  refine callV_fl (as' := [.inr (3, 0, 0), .inl (1, (p : Int)), .inl (1, (k : Int)), .inl (1, (l : Int)), .inl (1, (r : Int))]) rfl ?_
  refine callV_of rfl (b_r_join (inRn (by omega)) (inRn (by omega)) (inRn (by omega)) (inRn (by omega)) ⟨by omega, ?_⟩)
  rw [Int.toNat_natCast, hsl, show 5 * (p : Int) + (k : Int) = ((5 * p + k : Nat) : Int) by omega, show 5 * (l : Int) + (sl : Int) = ((5 * l + sl : Nat) : Int) by omega]
  refine c_copySlot (by omega) (by omega) ?_
  intro I1 g1 g2 g3
  refine ⟨by omega, ?_⟩
  intro v ev _
  rw [rd_of (g1 _ (by omega) (by omega)), hsl, wrn (sl + 1) (by omega) (by omega)] at ev
  subst ev
  exact keys sr 0 I1 (by omega) g1 (fun x hx => g3 x (by omega)) (fun x hx => g3 _ (by omega)) g2 (fun x hx => absurd hx (by omega))
set_option maxHeartbeats 8000000 in
theorem c_settle {J : Mm} {K : Mm → Prop} {lv n q b sq : Nat} (hd : rd J 212 42 = ((lv + 1 : Nat) : Int)) (hlv : lv + 1 < 16) (hpn : rd J 251 (lv + 1) = n) (hpq : rd J 251 lv = q) (hpb : rd J 252 lv = b) (nv : n < 2160) (qv : q < 2160) (nq : n ≠ q) (hn1 : rd J 243 n = 1) (hsq : rd J 243 q = sq) (hsq1 : 1 ≤ sq) (hsq4 : sq ≤ 4) (hb : b ≤ sq) (hc : cnOK J)
    (nb : ∀ j, j ≤ sq → j ≠ b → ∃ l : Nat, rd J 246 (6 * q + j) = l ∧ l < 2160 ∧ l ≠ q ∧ l ≠ n ∧ 2 ≤ rd J 243 l ∧ rd J 243 l ≤ 4)
    (hKL : 0 < b → ∀ l : Nat, rd J 246 (6 * q + (b - 1)) = l → 2 < rd J 243 l → ∀ J' : Mm, SFr J J' → cnOK J' → (∀ m, rd J' 242 m = rd J 242 m) → nsR J' q = ((nsR J q).1.set (b - 1) (sE J (5 * l + ((rd J 243 l).toNat - 1))), (nsR J q).2) → nsR J' l = ((nsR J l).1.dropLast, (nsR J l).2.dropLast) → nsR J' n = (sE J (5 * q + (b - 1)) :: (nsR J n).1, rd J 246 (6 * l + (rd J 243 l).toNat) :: (nsR J n).2) → (∀ m, m < 2160 → m ≠ q → m ≠ l → m ≠ n → nsR J' m = nsR J m) → rd J' 243 q = sq → K J')
    (hKR : (0 < b → ∀ l : Nat, rd J 246 (6 * q + (b - 1)) = l → rd J 243 l ≤ 2) → b < sq → ∀ l : Nat, rd J 246 (6 * q + (b + 1)) = l → 2 < rd J 243 l → ∀ J' : Mm, SFr J J' → cnOK J' → (∀ m, rd J' 242 m = rd J 242 m) → nsR J' q = ((nsR J q).1.set b (sE J (5 * l)), (nsR J q).2) → nsR J' n = ((nsR J n).1 ++ [sE J (5 * q + b)], (nsR J n).2 ++ [rd J 246 (6 * l)]) → nsR J' l = ((nsR J l).1.tail, (nsR J l).2.tail) → (∀ m, m < 2160 → m ≠ q → m ≠ n → m ≠ l → nsR J' m = nsR J m) → rd J' 243 q = sq → K J')
    (hKJ : 0 < b → (∀ l : Nat, rd J 246 (6 * q + (b - 1)) = l → rd J 243 l ≤ 2) → (b < sq → ∀ l : Nat, rd J 246 (6 * q + (b + 1)) = l → rd J 243 l ≤ 2) → ∀ l : Nat, rd J 246 (6 * q + (b - 1)) = l → ∀ J' : Mm, SFr J J' → cnOK J' → (∀ m, rd J' 242 m = if m = n then 0 else rd J 242 m) → nsR J' q = (remL (nsR J q).1 (b - 1), remL (nsR J q).2 (b - 1 + 1)) → nsR J' l = ((nsR J l).1 ++ sE J (5 * q + (b - 1)) :: (nsR J n).1, (nsR J l).2 ++ (nsR J n).2) → (∀ m, m < 2160 → m ≠ q → m ≠ l → nsR J' m = nsR J m) → rd J' 243 q = sq - 1 → K J')
    (hKK : b = 0 → (∀ l : Nat, rd J 246 (6 * q + (b + 1)) = l → rd J 243 l ≤ 2) → ∀ l : Nat, rd J 246 (6 * q + (b + 1)) = l → ∀ J' : Mm, SFr J J' → cnOK J' → (∀ m, rd J' 242 m = if m = l then 0 else rd J 242 m) → nsR J' q = (remL (nsR J q).1 b, remL (nsR J q).2 (b + 1)) → nsR J' n = ((nsR J n).1 ++ sE J (5 * q + b) :: (nsR J l).1, (nsR J n).2 ++ (nsR J l).2) → (∀ m, m < 2160 → m ≠ q → m ≠ n → nsR J' m = nsR J m) → rd J' 243 q = sq - 1 → K J') :
    CallV 155 [.inr (3, 0, 0)] J K := by
  have doL : ∀ l : Nat, 0 < b → rd J 246 (6 * q + (b - 1)) = l → l < 2160 → l ≠ q → l ≠ n → 2 < rd J 243 l → rd J 243 l ≤ 4 → CallV 151 [.inr (3, 0, 0), .inl (0, ((5 * (q : Int)) + (b : Int)) - 1)] J (fun I13 => CallV 143 [.inr (3, 0, 0), .inl (0, 5 * (n : Int)), .inl (0, (5 * (n : Int)) + 1)] I13 (fun I14 => CallV 144 [.inr (3, 0, 0), .inl (0, 5 * (n : Int))] I14 (fun I15 => (0 ≤ (wr ((6 * (n : Int)) + 1)) ∧ (wr ((6 * (n : Int)) + 1)) < 12960) ∧ ((0 ≤ (wr ((6 * (n : Int)) + 2)) ∧ (wr ((6 * (n : Int)) + 2)) < 12960) ∧ (∀ I16, I16 = wt I15 246 (wr ((6 * (n : Int)) + 2)).toNat (rd I15 246 (wr ((6 * (n : Int)) + 1)).toNat) → (0 ≤ (wr (6 * (n : Int))) ∧ (wr (6 * (n : Int))) < 12960) ∧ ((0 ≤ (wr ((6 * (n : Int)) + 1)) ∧ (wr ((6 * (n : Int)) + 1)) < 12960) ∧ (∀ I17, I17 = wt I16 246 (wr ((6 * (n : Int)) + 1)).toNat (rd I16 246 (wr (6 * (n : Int))).toNat) → (0 ≤ (l : Int) ∧ (l : Int) < 2160) ∧ ((0 ≤ (wr ((6 * (l : Int)) + (rd I17 243 (l : Int).toNat))) ∧ (wr ((6 * (l : Int)) + (rd I17 243 (l : Int).toNat))) < 12960) ∧ ((0 ≤ (wr (6 * (n : Int))) ∧ (wr (6 * (n : Int))) < 12960) ∧ (∀ I18, I18 = wt I17 246 (wr (6 * (n : Int))).toNat (rd I17 246 (wr ((6 * (l : Int)) + (rd I17 243 (l : Int).toNat))).toNat) → (0 ≤ (n : Int) ∧ (n : Int) < 2160) ∧ (∀ I19, I19 = wt I18 243 (n : Int).toNat 2 → (0 ≤ (l : Int) ∧ (l : Int) < 2160) ∧ (CallV 143 [.inr (3, 0, 0), .inl (0, ((5 * (l : Int)) + (rd I19 243 (l : Int).toNat)) - 1), .inl (0, ((5 * (q : Int)) + (b : Int)) - 1)] I19 (fun I20 => (0 ≤ (l : Int) ∧ (l : Int) < 2160) ∧ ((0 ≤ (wr ((6 * (l : Int)) + (rd I20 243 (l : Int).toNat))) ∧ (wr ((6 * (l : Int)) + (rd I20 243 (l : Int).toNat))) < 12960) ∧ (∀ I21, I21 = wt I20 246 (wr ((6 * (l : Int)) + (rd I20 243 (l : Int).toNat))).toNat (-1) → (0 ≤ (l : Int) ∧ (l : Int) < 2160) ∧ ((0 ≤ (l : Int) ∧ (l : Int) < 2160) ∧ (∀ I22, I22 = wt I21 243 (l : Int).toNat ((rd I21 243 (l : Int).toNat) - 1) → (rV K) none I22))))))))))))))))) := by
    intro l b0 hl lv' lq ln l2 l4
    obtain ⟨sl, hsl⟩ : ∃ sl : Nat, rd J 243 l = sl := ⟨(rd J 243 l).toNat, by omega⟩
    rw [hsl] at l2 l4
    have fin := fun J' a1 a2 a3 a4 a5 a6 a7 a8 => hKL b0 l hl (by omega) J' a1 a2 a3 a4 a5 a6 a7 a8
    rw [hsl, Int.toNat_natCast] at fin
    rw [show 5 * (q : Int) + (b : Int) - 1 = ((5 * q + (b - 1) : Nat) : Int) by omega]
    refine c_takeSlot (by omega) ?_
    intro I13 a1 a2 a3
    rw [show 5 * (n : Int) = ((5 * n : Nat) : Int) by omega, show ((5 * n : Nat) : Int) + 1 = ((5 * n + 1 : Nat) : Int) by omega]
    refine c_copySlot (by omega) (by omega) ?_
    intro I14 b1 b2 b3
    refine c_fillSlot (by omega) ?_
    intro I15 c1 c2 c3
    have w1 : wr (6 * (n : Int) + 1) = ((6 * n + 1 : Nat) : Int) := wrn _ (by omega) (by omega)
    have w2 : wr (6 * (n : Int) + 2) = ((6 * n + 2 : Nat) : Int) := wrn _ (by omega) (by omega)
    have w0 : wr (6 * (n : Int)) = ((6 * n : Nat) : Int) := wrn _ (by omega) (by omega)
    rw [w0, w1, w2, Int.toNat_natCast, Int.toNat_natCast, Int.toNat_natCast, Int.toNat_natCast, Int.toNat_natCast]
    refine ⟨by omega, by omega, ?_⟩
    intro I16 e16
    refine ⟨by omega, by omega, ?_⟩
    intro I17 e17
    have r15 : ∀ c, c ≠ 212 → c ≠ 244 → c ≠ 245 → c ≠ 250 → I15 c = J c := fun c k0 k4 k5 k7 => by rw [c1 c k4 k5, b1 c k4 k5, a1 c k0 k7]
    have r17c : ∀ m, rd I17 243 m = rd J 243 m := fun m => by rw [e17, rd_wt_a _ _ _ _ (by omega), e16, rd_wt_a _ _ _ _ (by omega), rd_of (r15 _ (by omega) (by omega) (by omega) (by omega))]
    have w3 : wr (6 * (l : Int) + (sl : Int)) = ((6 * l + sl : Nat) : Int) := wrn _ (by omega) (by omega)
    rw [r17c, hsl, w3, Int.toNat_natCast]
    refine ⟨by omega, by omega, by omega, ?_⟩
    intro I18 e18
    refine ⟨by omega, ?_⟩
    intro I19 e19
    have r19 : rd I19 243 l = sl := by rw [e19, rd_wt_k _ _ _ _ ln, e18, rd_wt_a _ _ _ _ (by omega), r17c, hsl]
    rw [r19, show 5 * (l : Int) + (sl : Int) - 1 = ((5 * l + (sl - 1) : Nat) : Int) by omega]
    refine ⟨by omega, ?_⟩
    refine c_copySlot (by omega) (by omega) ?_
    intro I20 d1 d2 d3
    have r20 : rd I20 243 l = sl := by rw [rd_of (d1 _ (by omega) (by omega)), r19]
    rw [r20, w3, Int.toNat_natCast]
    refine ⟨by omega, by omega, ?_⟩
    intro I21 e21
    have r21 : rd I21 243 l = sl := by rw [e21, rd_wt_a _ _ _ _ (by omega), r20]
    rw [r21]
    refine ⟨by omega, by omega, ?_⟩
    intro I22 e22
    have s15 : ∀ p, sE I15 p = if p = 5 * n then sE J (5 * q + (b - 1)) else if p = 5 * n + 1 then sE J (5 * n) else sE J p := by
      intro p
      have sa : ∀ p, sE I13 p = sE J p := fun p => sE_of (a1 _ (by omega) (by omega)) (a1 _ (by omega) (by omega)) p
      by_cases p0 : p = 5 * n
      · subst p0
        rw [if_pos rfl, c2, ← a3]
        exact atE_of (b1 _ (by omega) (by omega)) (rd_of (b1 _ (by omega) (by omega)) _)
      · rw [if_neg p0, c3 p p0]
        by_cases p1 : p = 5 * n + 1
        · subst p1
          rw [if_pos rfl, b2, sa]
        · rw [if_neg p1, b3 p p1, sa]
    have s19 : ∀ p, sE I19 p = sE I15 p := fun p => sE_of (by rw [e19, wt_a _ _ _ _ (by omega), e18, wt_a _ _ _ _ (by omega), e17, wt_a _ _ _ _ (by omega), e16, wt_a _ _ _ _ (by omega)]) (by rw [e19, wt_a _ _ _ _ (by omega), e18, wt_a _ _ _ _ (by omega), e17, wt_a _ _ _ _ (by omega), e16, wt_a _ _ _ _ (by omega)]) p
    have s22 : ∀ p, sE I22 p = if p = 5 * q + (b - 1) then sE J (5 * l + (sl - 1)) else if p = 5 * n then sE J (5 * q + (b - 1)) else if p = 5 * n + 1 then sE J (5 * n) else sE J p := by
      intro p
      have se : sE I22 p = sE I20 p := sE_of (by rw [e22, wt_a _ _ _ _ (by omega), e21, wt_a _ _ _ _ (by omega)]) (by rw [e22, wt_a _ _ _ _ (by omega), e21, wt_a _ _ _ _ (by omega)]) p
      rw [se]
      by_cases p0 : p = 5 * q + (b - 1)
      · subst p0
        rw [if_pos rfl, d2, s19, s15, if_neg (by omega), if_neg (by omega)]
      · rw [if_neg p0, d3 p p0, s19, s15]
    have k15 : ∀ x, rd I15 246 x = rd J 246 x := fun x => rd_of (r15 _ (by omega) (by omega) (by omega) (by omega)) x
    have k18 : ∀ x, rd I18 246 x = if x = 6 * n then rd J 246 (6 * l + sl) else if x = 6 * n + 1 then rd J 246 (6 * n) else if x = 6 * n + 2 then rd J 246 (6 * n + 1) else rd J 246 x := by
      have k16 : ∀ x, rd I16 246 x = if x = 6 * n + 2 then rd J 246 (6 * n + 1) else rd J 246 x := fun x => by rw [e16, rd_wt, if_pos rfl, wr_of (rd_in _ _ _), k15, k15]
      have src17 : rd I16 246 (6 * n) = rd J 246 (6 * n) := by rw [k16, if_neg (by omega)]
      have k17 : ∀ x, rd I17 246 x = if x = 6 * n + 1 then rd J 246 (6 * n) else if x = 6 * n + 2 then rd J 246 (6 * n + 1) else rd J 246 x := fun x => by
        rw [e17, rd_wt, if_pos rfl, wr_of (rd_in _ _ _), src17, k16]
      have src18 : rd I17 246 (6 * l + sl) = rd J 246 (6 * l + sl) := by rw [k17, if_neg (by omega), if_neg (by omega)]
      intro x
      rw [e18, rd_wt, if_pos rfl, wr_of (rd_in _ _ _), src18, k17]
    have k22 : ∀ x, rd I22 246 x = if x = 6 * l + sl then -1 else if x = 6 * n then rd J 246 (6 * l + sl) else if x = 6 * n + 1 then rd J 246 (6 * n) else if x = 6 * n + 2 then rd J 246 (6 * n + 1) else rd J 246 x := by
      intro x
      rw [e22, rd_wt_a _ _ _ _ (by omega), e21, rd_wt, if_pos rfl, wrx (by omega) (by omega)]
      by_cases c : x = 6 * l + sl
      · rw [if_pos c, if_pos c]
      · rw [if_neg c, if_neg c, rd_of (d1 _ (by omega) (by omega)), e19, rd_wt_a _ _ _ _ (by omega), k18]
    have n22 : ∀ m, rd I22 243 m = if m = l then (sl : Int) - 1 else if m = n then 2 else rd J 243 m := by
      intro m
      rw [e22, rd_wt, if_pos rfl, wrx (by omega) (by omega)]
      by_cases c : m = l
      · rw [if_pos c, if_pos c]
      · rw [if_neg c, if_neg c, e21, rd_wt_a _ _ _ _ (by omega), rd_of (d1 _ (by omega) (by omega)), e19, rd_wt, if_pos rfl, wrx (by omega) (by omega)]
        by_cases c' : m = n
        · rw [if_pos c', if_pos c']
        · rw [if_neg c', if_neg c', e18, rd_wt_a _ _ _ _ (by omega), r17c]
    refine fin I22 ⟨fun c k0 k2 k3 k4 k5 k6 k7 => by rw [e22, wt_a _ _ _ _ k3, e21, wt_a _ _ _ _ k6, d1 c k4 k5, e19, wt_a _ _ _ _ k3, e18, wt_a _ _ _ _ k6, e17, wt_a _ _ _ _ k6, e16, wt_a _ _ _ _ k6, r15 c k0 k4 k5 k7], fun k hk => ?_⟩ ?_ (fun m => ?_) ?_ ?_ ?_ ?_ ?_
    · rw [e22, rd_wt_a _ _ _ _ (by omega), e21, rd_wt_a _ _ _ _ (by omega), rd_of (d1 _ (by omega) (by omega)), e19, rd_wt_a _ _ _ _ (by omega), e18, rd_wt_a _ _ _ _ (by omega), e17, rd_wt_a _ _ _ _ (by omega), e16, rd_wt_a _ _ _ _ (by omega), rd_of (c1 _ (by omega) (by omega)), rd_of (b1 _ (by omega) (by omega)), a2 k hk]
    · intro m hm
      rw [n22]
      by_cases ca : m = l
      · rw [if_pos ca]; omega
      · rw [if_neg ca]
        by_cases cb : m = n
        · rw [if_pos cb]; omega
        · rw [if_neg cb]; exact hc m hm
    · rw [e22, rd_wt_a _ _ _ _ (by omega), e21, rd_wt_a _ _ _ _ (by omega), rd_of (d1 _ (by omega) (by omega)), e19, rd_wt_a _ _ _ _ (by omega), e18, rd_wt_a _ _ _ _ (by omega), e17, rd_wt_a _ _ _ _ (by omega), e16, rd_wt_a _ _ _ _ (by omega), rd_of (r15 _ (by omega) (by omega) (by omega) (by omega))]
    · unfold nsR rks rcs
      rw [n22, if_neg (Ne.symm lq), if_neg (Ne.symm nq), hsq, Int.toNat_natCast]
      congr 1
      · exact sgA_set (by omega) (fun x hx hne => by rw [s22, if_neg (by omega), if_neg (by omega), if_neg (by omega)]) (by rw [s22, if_pos rfl])
      · exact seg_congr (fun x hx => by rw [k22, if_neg (by omega), if_neg (by omega), if_neg (by omega), if_neg (by omega)])
    · unfold nsR rks rcs
      rw [n22, if_pos rfl, hsl, Int.toNat_natCast, show ((sl : Int) - 1).toNat = sl - 1 by omega]
      congr 1
      · exact sgA_dl (by omega) (fun x hx => by rw [s22, if_neg (by omega), if_neg (by omega), if_neg (by omega)])
      · rw [show sl - 1 + 1 = sl + 1 - 1 by omega]
        exact seg_dl (by omega) (fun x hx => by rw [k22, if_neg (by omega), if_neg (by omega), if_neg (by omega), if_neg (by omega)])
    · unfold nsR rks rcs
      rw [n22, if_neg (Ne.symm ln), if_pos rfl, hn1]
      congr 1
      · exact sgA_cn (n := 1) (by rw [s22, if_neg (by omega), if_pos rfl]) (fun x hx => by
          have : x = 0 := by omega
          subst this
          rw [s22, if_neg (by omega), if_neg (by omega), if_pos rfl]
          rfl)
      · exact seg_cn (n := 2) (by rw [k22, if_neg (by omega), if_pos rfl]) (fun x hx => by
          have : x = 0 ∨ x = 1 := by omega
          rcases this with rfl | rfl
          · rw [k22, if_neg (by omega), if_neg (by omega), if_pos rfl]; rfl
          · rw [k22, if_neg (by omega), if_neg (by omega), if_neg (by omega), if_pos rfl])
    · intro m hm cq cl cn
      have cm := hc m hm
      unfold nsR rks rcs
      rw [n22, if_neg cl, if_neg cn]
      congr 1
      · exact sgA_congr (fun x hx => by rw [s22, if_neg (by omega), if_neg (by omega), if_neg (by omega)])
      · exact seg_congr (fun x hx => by rw [k22, if_neg (by omega), if_neg (by omega), if_neg (by omega), if_neg (by omega)])
    · rw [n22, if_neg (Ne.symm lq), if_neg (Ne.symm nq), hsq]
  have doR : ∀ l : Nat, (0 < b → ∀ l : Nat, rd J 246 (6 * q + (b - 1)) = l → rd J 243 l ≤ 2) → b < sq → rd J 246 (6 * q + (b + 1)) = l → l < 2160 → l ≠ q → l ≠ n → 2 < rd J 243 l → rd J 243 l ≤ 4 → CallV 143 [.inr (3, 0, 0), .inl (0, (5 * (q : Int)) + (b : Int)), .inl (0, (5 * (n : Int)) + 1)] J (fun I4 => (0 ≤ (wr (6 * (l : Int))) ∧ (wr (6 * (l : Int))) < 12960) ∧ ((0 ≤ (wr ((6 * (n : Int)) + 2)) ∧ (wr ((6 * (n : Int)) + 2)) < 12960) ∧ (∀ I5, I5 = wt I4 246 (wr ((6 * (n : Int)) + 2)).toNat (rd I4 246 (wr (6 * (l : Int))).toNat) → (0 ≤ (n : Int) ∧ (n : Int) < 2160) ∧ (∀ I6, I6 = wt I5 243 (n : Int).toNat 2 → CallV 143 [.inr (3, 0, 0), .inl (0, 5 * (l : Int)), .inl (0, (5 * (q : Int)) + (b : Int))] I6 (fun I7 => CallV 153 [.inr (3, 0, 0), .inl (1, (l : Int)), .inl (2, 0), .inl (2, 0)] I7 (fun I8 => (rV K) none I8)))))) := by
    intro l hs0 bs hl lv' lq ln l2 l4
    obtain ⟨sl, hsl⟩ : ∃ sl : Nat, rd J 243 l = sl := ⟨(rd J 243 l).toNat, by omega⟩
    have fin := fun J' a1 a2 a3 a4 a5 a6 a7 a8 => hKR hs0 bs l hl l2 J' a1 a2 a3 a4 a5 a6 a7 a8
    rw [hsl] at l2 l4
    rw [show 5 * (q : Int) + (b : Int) = ((5 * q + b : Nat) : Int) by omega, show 5 * (n : Int) + 1 = ((5 * n + 1 : Nat) : Int) by omega]
    refine c_copySlot (by omega) (by omega) ?_
    intro I4 b1 b2 b3
    have w2 : wr (6 * (n : Int) + 2) = ((6 * n + 2 : Nat) : Int) := wrn _ (by omega) (by omega)
    have w0 : wr (6 * (l : Int)) = ((6 * l : Nat) : Int) := wrn _ (by omega) (by omega)
    rw [w0, w2, Int.toNat_natCast, Int.toNat_natCast, Int.toNat_natCast]
    refine ⟨by omega, by omega, ?_⟩
    intro I5 e5
    refine ⟨by omega, ?_⟩
    intro I6 e6
    rw [show 5 * (l : Int) = ((5 * l : Nat) : Int) by omega]
    refine c_copySlot (by omega) (by omega) ?_
    intro I7 d1 d2 d3
    have n7 : ∀ m, rd I7 243 m = if m = n then 2 else rd J 243 m := fun m => by rw [rd_of (d1 _ (by omega) (by omega)), e6, rd_wt, if_pos rfl, wrx (by omega) (by omega), e5, rd_wt_a _ _ _ _ (by omega), rd_of (b1 _ (by omega) (by omega))]
    have s6 : ∀ p, sE I6 p = sE I4 p := fun p => sE_of (by rw [e6, wt_a _ _ _ _ (by omega), e5, wt_a _ _ _ _ (by omega)]) (by rw [e6, wt_a _ _ _ _ (by omega), e5, wt_a _ _ _ _ (by omega)]) p
    have s7 : ∀ p, sE I7 p = if p = 5 * q + b then sE J (5 * l) else if p = 5 * n + 1 then sE J (5 * q + b) else sE J p := by
      intro p
      by_cases p0 : p = 5 * q + b
      · subst p0
        rw [if_pos rfl, d2, s6, b3 _ (by omega)]
      · rw [if_neg p0, d3 p p0, s6]
        by_cases p1 : p = 5 * n + 1
        · subst p1; rw [if_pos rfl, b2]
        · rw [if_neg p1, b3 p p1]
    have k7 : ∀ x, rd I7 246 x = if x = 6 * n + 2 then rd J 246 (6 * l) else rd J 246 x := fun x => by
      rw [rd_of (d1 _ (by omega) (by omega)), e6, rd_wt_a _ _ _ _ (by omega), e5, rd_wt, if_pos rfl, wr_of (rd_in _ _ _), rd_of (b1 _ (by omega) (by omega)), rd_of (b1 _ (by omega) (by omega))]
    have cn7 : cnOK I7 := by
      intro m hm
      rw [n7]
      by_cases cb : m = n
      · rw [if_pos cb]; omega
      · rw [if_neg cb]; exact hc m hm
    have l7 : nsR I7 l = nsR J l := by
      unfold nsR rks rcs
      rw [n7, if_neg ln, hsl, Int.toNat_natCast]
      congr 1
      · exact sgA_congr (fun x hx => by rw [s7, if_neg (by omega), if_neg (by omega)])
      · exact seg_congr (fun x hx => by rw [k7, if_neg (by omega)])
    refine c_rtakeOut (k := 0) (dr := 0) (s := sl) lv' (by rw [n7, if_neg ln, hsl]) (by omega) (by omega) (by omega) ?_
    intro I8 g1 g2 g3 g4 g5
    have r8 : ∀ c, c ≠ 243 → c ≠ 244 → c ≠ 245 → c ≠ 246 → I8 c = J c := fun c k3 k4 k5 k6 => by rw [g1 c k3 k4 k5 k6, d1 c k4 k5, e6, wt_a _ _ _ _ k3, e5, wt_a _ _ _ _ k6, b1 c k4 k5]
    refine fin I8 ⟨fun c k0 k2 k3 k4 k5 k6 k7 => r8 c k3 k4 k5 k6, fun k hk => rd_of (r8 _ (by omega) (by omega) (by omega) (by omega)) k⟩ ?_ (fun m => rd_of (r8 _ (by omega) (by omega) (by omega) (by omega)) m) ?_ ?_ ?_ ?_ ?_
    · intro m hm
      by_cases c : m = l
      · subst c; rw [g3]; omega
      · rw [g2.2.2 m c]; exact cn7 m hm
    · rw [nsR_off g2 cn7 qv (Ne.symm lq)]
      unfold nsR rks rcs
      rw [n7, if_neg (Ne.symm nq), hsq, Int.toNat_natCast]
      congr 1
      · exact sgA_set (by omega) (fun x hx hne => by rw [s7, if_neg (by omega), if_neg (by omega)]) (by rw [s7, if_pos rfl])
      · exact seg_congr (fun x hx => by rw [k7, if_neg (by omega)])
    · rw [nsR_off g2 cn7 nv (Ne.symm ln)]
      unfold nsR rks rcs
      rw [n7, if_pos rfl, hn1]
      congr 1
      · exact sgA_sn (n := 1) (by rw [s7, if_neg (by omega), if_pos rfl]) (fun x hx => by rw [s7, if_neg (by omega), if_neg (by omega)])
      · exact seg_sn (n := 2) (by rw [k7, if_pos rfl]) (fun x hx => by rw [k7, if_neg (by omega)])
    · show (rks I8 l, rcs I8 l) = _
      rw [g4, g5, remL_0, remL_0]
      show ((nsR I7 l).1.tail, (nsR I7 l).2.tail) = _
      rw [l7]
    · intro m hm cq cn cl
      have cm := hc m hm
      rw [nsR_off g2 cn7 hm cl]
      unfold nsR rks rcs
      rw [n7, if_neg cn]
      congr 1
      · exact sgA_congr (fun x hx => by rw [s7, if_neg (by omega), if_neg (by omega)])
      · exact seg_congr (fun x hx => by rw [k7, if_neg (by omega)])
    · rw [g2.2.2 q (Ne.symm lq), n7, if_neg (Ne.symm nq), hsq]
  have doJ : 0 < b → (∀ l : Nat, rd J 246 (6 * q + (b - 1)) = l → rd J 243 l ≤ 2) → (b < sq → ∀ l : Nat, rd J 246 (6 * q + (b + 1)) = l → rd J 243 l ≤ 2) → ∀ l : Nat, rd J 246 (6 * q + (b - 1)) = l → l < 2160 → l ≠ q → l ≠ n → CallV 156 [.inr (3, 0, 0), .inl (1, (q : Int)), .inl (0, (b : Int) - 1), .inl (1, (l : Int)), .inl (1, (n : Int))] J (fun I10 => (rV K) none I10) := by
    intro b0 h1 h2 l hl lv' lq ln
    have l2 := h1 l hl
    have cl := hc l lv'
    obtain ⟨sl, hsl⟩ : ∃ sl : Nat, rd J 243 l = sl := ⟨(rd J 243 l).toNat, by omega⟩
    rw [show (b : Int) - 1 = ((b - 1 : Nat) : Int) by omega]
    exact c_rjoin (sp := sq) (sl := sl) (sr := 1) hc qv lv' nv (Ne.symm lq) (Ne.symm nq) ln hsq (by omega) hsl hn1 (by omega) (by omega) (hKJ b0 h1 h2 l hl)
  have doK : b = 0 → (∀ l : Nat, rd J 246 (6 * q + (b + 1)) = l → rd J 243 l ≤ 2) → ∀ l : Nat, rd J 246 (6 * q + (b + 1)) = l → l < 2160 → l ≠ q → l ≠ n → CallV 156 [.inr (3, 0, 0), .inl (1, (q : Int)), .inl (1, (b : Int)), .inl (1, (n : Int)), .inl (1, (l : Int))] J (fun I10 => (rV K) none I10) := by
    intro b0 h1 l hl lv' lq ln
    have l2 := h1 l hl
    have cl := hc l lv'
    obtain ⟨sl, hsl⟩ : ∃ sl : Nat, rd J 243 l = sl := ⟨(rd J 243 l).toNat, by omega⟩
    exact c_rjoin (sp := sq) (sl := 1) (sr := sl) hc qv nv lv' (Ne.symm nq) (Ne.symm lq) (Ne.symm ln) hsq (by omega) hn1 hsl (by omega) (by omega) (hKK b0 h1 l hl)
  refine callV_of rfl (b_r_settle ?_)
  have wl : wr (((lv + 1 : Nat) : Int) - 1) = (lv : Int) := by rw [wrx (by omega) (by omega)]; omega
  rw [hd, wl, Int.toNat_natCast, Int.toNat_natCast, hpn, hpq, hpb]
  refine ⟨by omega, ?_⟩
  intro v1 e1 _
  subst e1
  refine ⟨by omega, ?_⟩
  intro v2 e2 _
  subst e2
  refine ⟨by omega, ?_⟩
  intro v3 e3 _
  subst e3
  rw [Int.toNat_natCast, hsq]
  refine ⟨fun z => ?_, fun z => ?_⟩
  · have b0 : b = 0 := by omega
    refine ⟨by omega, fun z2 => absurd z2 (by omega), fun z2 => ?_⟩
    obtain ⟨l, y1, y2, y3, y4, y5, y6⟩ := nb (b + 1) (by omega) (by omega)
    have wR : wr (6 * (q : Int) + (b : Int) + 1) = ((6 * q + (b + 1) : Nat) : Int) := wrn _ (by omega) (by omega)
    rw [wR, Int.toNat_natCast, y1]
    refine ⟨by omega, ?_⟩
    intro v5 e5 _
    subst e5
    refine ⟨fun z3 => absurd z3 (by omega), fun _ => ⟨by omega, fun z3 => ?_, fun z3 => ?_⟩⟩
    · rw [Int.toNat_natCast] at z3
      exact doK b0 (fun l' h' => by rw [show l' = l by omega]; omega) l y1 y2 y3 y4
    · rw [Int.toNat_natCast] at z3
      exact doR l (fun c => absurd c (by omega)) (by omega) y1 y2 y3 y4 (by omega) y6
  · have b0 : 0 < b := by omega
    obtain ⟨l, y1, y2, y3, y4, y5, y6⟩ := nb (b - 1) (by omega) (by omega)
    have wL : wr (6 * (q : Int) + (b : Int) - 1) = ((6 * q + (b - 1) : Nat) : Int) := wrn _ (by omega) (by omega)
    have wR : wr (6 * (q : Int) + (b : Int) + 1) = ((6 * q + (b + 1) : Nat) : Int) := wrn _ (by omega) (by omega)
    rw [wL, wR, Int.toNat_natCast, Int.toNat_natCast, y1]
    refine ⟨by omega, ?_⟩
    intro v4 e4 _
    subst e4
    refine ⟨by omega, fun z2 => ⟨fun z3 => absurd z3 (by omega), fun _ => ⟨by omega, fun z3 => ⟨fun z4 => absurd z4 (by omega), fun _ => ?_⟩, fun z3 => ?_⟩⟩, fun z2 => ?_⟩
    · rw [Int.toNat_natCast] at z3
      exact doJ b0 (fun l' h' => by rw [show l' = l by omega]; omega) (fun c => absurd c (by omega)) l y1 y2 y3 y4
    · rw [Int.toNat_natCast] at z3
      exact doL l b0 y1 y2 y3 y4 (by omega) y6
    · obtain ⟨r, x1, x2, x3, x4, x5, x6⟩ := nb (b + 1) (by omega) (by omega)
      rw [Int.toNat_natCast, x1]
      refine ⟨by omega, ?_⟩
      intro v5 e5 _
      subst e5
      refine ⟨fun z3 => absurd z3 (by omega), fun _ => ⟨by omega, fun z3 => ⟨fun z4 => absurd z4 (by omega), fun _ => ⟨by omega, fun z4 => ⟨fun z5 => absurd z5 (by omega), fun _ => ?_⟩, fun z4 => ?_⟩⟩, fun z3 => ?_⟩⟩
      · rw [Int.toNat_natCast] at z3 z4
        exact doJ b0 (fun l' h' => by rw [show l' = l by omega]; omega) (fun _ l' h' => by rw [show l' = r by omega]; omega) l y1 y2 y3 y4
      · rw [Int.toNat_natCast] at z3 z4
        exact doR r (fun _ l' h' => by rw [show l' = l by omega]; omega) (by omega) x1 x2 x3 x4 (by omega) x6
      · rw [Int.toNat_natCast] at z3
        exact doL l b0 y1 y2 y3 y4 (by omega) y6
