/-! THE REFERENCE: slots and nodes -/
section SGA
variable {α : Type}
def sgA (f : Nat → α) (b n : Nat) : List α := (List.range n).map (fun k => f (b + k))
theorem sgA_len (f : Nat → α) (b n : Nat) : (sgA f b n).length = n := by simp [sgA]
theorem sgA_get (f : Nat → α) (b : Nat) {n k : Nat} (h : k < n) : (sgA f b n)[k]? = some (f (b + k)) := by simp [sgA, h]
theorem sgA_ext {f : Nat → α} {b n : Nat} {l : List α} (hl : l.length = n) (h : ∀ k, k < n → l[k]? = some (f (b + k))) : sgA f b n = l := by
  apply List.ext_getElem?
  intro i
  by_cases hi : i < n
  · rw [sgA_get f b hi, h i hi]
  · rw [List.getElem?_eq_none (by rw [sgA_len]; omega), List.getElem?_eq_none (by omega)]
theorem sgA_congr {f g : Nat → α} {b c n : Nat} (h : ∀ k, k < n → f (b + k) = g (c + k)) : sgA f b n = sgA g c n := by
  apply sgA_ext (sgA_len _ _ _)
  intro k hk
  rw [sgA_get g c hk, h k hk]
theorem sgA_ins {f f' : Nat → α} {b n k : Nat} {x : α} (hk : k ≤ n) (h1 : ∀ j, j < k → f' (b + j) = f (b + j)) (h2 : f' (b + k) = x) (h3 : ∀ j, k ≤ j → j < n → f' (b + (j + 1)) = f (b + j)) : sgA f' b (n + 1) = insL (sgA f b n) k x := by
  apply sgA_ext
  · rw [insL_len _ _ (by rw [sgA_len]; exact hk), sgA_len]
  · intro j hj
    rcases Nat.lt_trichotomy j k with h | h | h
    · rw [insL_lo (by rw [sgA_len]; exact hk) h, sgA_get f b (by omega), h1 j h]
    · subst h
      rw [insL_at (by rw [sgA_len]; exact hk), h2]
    · obtain ⟨i, rfl⟩ : ∃ i, j = i + 1 := ⟨j - 1, by omega⟩
      rw [insL_hi (by rw [sgA_len]; exact hk) (by omega), sgA_get f b (by omega), h3 i (by omega) (by omega)]
theorem sgA_rem {f f' : Nat → α} {b n k : Nat} (hk : k < n) (h1 : ∀ j, j < k → f' (b + j) = f (b + j)) (h3 : ∀ j, k ≤ j → j + 1 < n → f' (b + j) = f (b + (j + 1))) : sgA f' b (n - 1) = remL (sgA f b n) k := by
  apply sgA_ext
  · rw [remL_len _ (by rw [sgA_len]; exact hk), sgA_len]
  · intro j hj
    by_cases h : j < k
    · rw [remL_lo (by rw [sgA_len]; exact hk) h, sgA_get f b (by omega), h1 j h]
    · rw [remL_hi (by rw [sgA_len]; exact hk) (by omega), sgA_get f b (by omega), h3 j (by omega) (by omega)]
theorem sgA_set {f f' : Nat → α} {b n k : Nat} {x : α} (hk : k < n) (h1 : ∀ j, j < n → j ≠ k → f' (b + j) = f (b + j)) (h2 : f' (b + k) = x) : sgA f' b n = (sgA f b n).set k x := by
  apply sgA_ext
  · simp [sgA_len]
  · intro j hj
    rw [List.getElem?_set, sgA_len]
    by_cases h : k = j
    · subst h; simp [hk, h2]
    · rw [if_neg h, sgA_get f b hj, h1 j hj (Ne.symm h)]
end SGA
def sE (I : Mm) (p : Nat) : E := (rd I 244 (3 * p), rd I 244 (3 * p + 1), rd I 244 (3 * p + 2), rd I 245 p)
def atE (I : Mm) : E := (rd I 250 0, rd I 250 1, rd I 250 2, rd I 212 41)
def rks (I : Mm) (n : Nat) : List E := sgA (sE I) (5 * n) (rd I 243 n).toNat
def rcs (I : Mm) (n : Nat) : List Int := seg (rd I 246) (6 * n) ((rd I 243 n).toNat + 1)
def nsR (I : Mm) : Nat → List E × List Int := fun n => (rks I n, rcs I n)
def cnOK (I : Mm) : Prop := ∀ m, m < 2160 → 0 ≤ rd I 243 m ∧ rd I 243 m ≤ 5
/-- nothing changes off a node -/
def NFr (I J : Mm) (n : Nat) : Prop := (∀ p, (p < 5 * n ∨ 5 * n + 5 ≤ p) → sE J p = sE I p) ∧ (∀ x, (x < 6 * n ∨ 6 * n + 6 ≤ x) → rd J 246 x = rd I 246 x) ∧ (∀ m, m ≠ n → rd J 243 m = rd I 243 m)
theorem sE_of {I J : Mm} (h1 : J 244 = I 244) (h2 : J 245 = I 245) (p : Nat) : sE J p = sE I p := by
  unfold sE; rw [rd_of h1, rd_of h1, rd_of h1, rd_of h2]
theorem nsR_off {I J : Mm} {n m : Nat} (h : NFr I J n) (hc : cnOK I) (hm : m < 2160) (hne : m ≠ n) : nsR J m = nsR I m := by
  have c := hc m hm
  have e := h.2.2 m hne
  unfold nsR rks rcs
  rw [e]
  congr 1
  · exact sgA_congr (fun k hk => h.1 _ (by omega))
  · exact seg_congr (fun k hk => h.2.1 _ (by omega))
theorem nsR_of {I J : Mm} (h3 : J 243 = I 243) (h4 : J 244 = I 244) (h5 : J 245 = I 245) (h6 : J 246 = I 246) : nsR J = nsR I := by
  funext m
  unfold nsR rks rcs
  rw [rd_of h3, show sE J = sE I from funext (fun p => sE_of h4 h5 p), show rd J 246 = rd I 246 from funext (fun k => rd_of h6 k)]
set_option maxHeartbeats 1000000 in
theorem c_rcmp {I : Mm} {K : Int → Mm → Prop} {p fa : Nat} (hp : p < 10800) (h : K (ecmp (atE I) (sE I p)) I) : CallZ 142 [.inr (3, 0, 0), .inl (fa, (p : Int))] I K := by
  have st3 : K (wcmp (rd I 212 41) (rd I 245 p) 0) I → GoA 142 2 [some (.inr (3, 0, 0)), some (.inl (1, (p : Int))), some (.inl (1, ((3 : Nat) : Int)))] [] I (rZ K) := by
    intro hK
    refine b_r_compare_2 (inRn (by omega)) (inRn (by omega)) ⟨fun _ => ?_, fun z => absurd (by omega) z⟩
    rw [Int.toNat_natCast]
    refine ⟨by omega, fun a => ⟨by omega, fun b => ?_, fun b => ?_⟩, fun a => ?_⟩
    · have e : wcmp (rd I 212 41) (rd I 245 p) 0 = 0 := by unfold wcmp; rw [if_pos (by omega)]
      rw [e] at hK; exact hK
    · have e : wcmp (rd I 212 41) (rd I 245 p) 0 = 1 := by unfold wcmp; rw [if_neg (by omega), if_pos a]
      rw [e] at hK; exact hK
    · have e : wcmp (rd I 212 41) (rd I 245 p) 0 = -1 := by unfold wcmp; rw [if_neg (by omega), if_neg a]
      rw [e] at hK; exact hK
  have st : ∀ (k : Nat) (x : Int), k < 3 → (K x I → GoA 142 2 [some (.inr (3, 0, 0)), some (.inl (1, (p : Int))), some (.inl (1, ((k + 1 : Nat) : Int)))] [] I (rZ K)) → K (wcmp (rd I 250 k) (rd I 244 (3 * p + k)) x) I → GoA 142 2 [some (.inr (3, 0, 0)), some (.inl (1, (p : Int))), some (.inl (1, (k : Int)))] [] I (rZ K) := by
    intro k x hk hn hK
    refine b_r_compare_2 (inRn (by omega)) (inRn (by omega)) ⟨fun z => absurd z (by omega), fun _ => ?_⟩
    rw [wrn (3 * p + k) (by omega) (by omega), Int.toNat_natCast, Int.toNat_natCast]
    refine ⟨by omega, by omega, fun a => ?_, fun a => ⟨by omega, by omega, fun b => ?_, fun b => ?_⟩⟩
    · intro v2 e2 _
      rw [wrn (k + 1) (by omega) (by omega)] at e2
      subst e2
      have e : wcmp (rd I 250 k) (rd I 244 (3 * p + k)) x = x := by unfold wcmp; rw [if_pos a]
      rw [e] at hK
      exact hn hK
    · have e : wcmp (rd I 250 k) (rd I 244 (3 * p + k)) x = 1 := by unfold wcmp; rw [if_neg a, if_pos b]
      rw [e] at hK; exact hK
    · have e : wcmp (rd I 250 k) (rd I 244 (3 * p + k)) x = -1 := by unfold wcmp; rw [if_neg a, if_neg b]
      rw [e] at hK; exact hK
  refine callZ_fl (as' := [.inr (3, 0, 0), .inl (1, (p : Int))]) rfl ?_
  refine callZ_of rfl (b_r_compare (inRn (by omega)) ?_)
  exact st 0 _ (by omega) (st 1 _ (by omega) (st 2 _ (by omega) st3)) h
set_option maxHeartbeats 1000000 in
theorem c_copySlot {I : Mm} {K : Mm → Prop} {a b fa fb : Nat} (ha : a < 10800) (hb : b < 10800) (hK : ∀ I' : Mm, (∀ c, c ≠ 244 → c ≠ 245 → I' c = I c) → sE I' b = sE I a → (∀ p, p ≠ b → sE I' p = sE I p) → K I') : CallV 143 [.inr (3, 0, 0), .inl (fa, (a : Int)), .inl (fb, (b : Int))] I K := by
  have loop : ∀ (d k : Nat) (J : Mm), k + d = 3 → (∀ c, c ≠ 244 → J c = I c) → (∀ x, rd J 244 x = if 3 * b ≤ x ∧ x < 3 * b + k then rd I 244 (3 * a + (x - 3 * b)) else rd I 244 x) → GoA 143 2 [some (.inr (3, 0, 0)), some (.inl (1, (a : Int))), some (.inl (1, (b : Int))), some (.inl (1, (k : Int)))] [] J (rV K) := by
    intro d
    induction d with
    | zero =>
      intro k J hk f1 f2
      refine b_r_copySlot_2 (inRn (by omega)) (inRn (by omega)) (inRn (by omega)) ⟨fun _ => ?_, fun z => absurd (by omega) z⟩
      rw [Int.toNat_natCast, Int.toNat_natCast]
      refine ⟨by omega, by omega, ?_⟩
      intro I1 e1
      have q5 : ∀ x, rd I1 245 x = if x = b then rd I 245 a else rd I 245 x := fun x => by rw [e1, rd_wt, if_pos rfl, rd_of (f1 _ (by omega)), rd_of (f1 _ (by omega)), wr_of (rd_in _ _ _)]
      have q4 : ∀ x, rd I1 244 x = rd J 244 x := fun x => by rw [e1, rd_wt_a _ _ _ _ (by omega)]
      refine hK I1 (fun c c4 c5 => by rw [e1, wt_a _ _ _ _ c5, f1 c c4]) ?_ (fun p hp => ?_)
      · unfold sE
        rw [q4, q4, q4, q5, f2, f2, f2, if_pos (by omega), if_pos (by omega), if_pos (by omega), if_pos rfl, show 3 * a + (3 * b - 3 * b) = 3 * a by omega, show 3 * a + (3 * b + 1 - 3 * b) = 3 * a + 1 by omega, show 3 * a + (3 * b + 2 - 3 * b) = 3 * a + 2 by omega]
      · unfold sE
        rw [q4, q4, q4, q5, f2, f2, f2, if_neg (by omega), if_neg (by omega), if_neg (by omega), if_neg hp]
    | succ d ih =>
      intro k J hk f1 f2
      refine b_r_copySlot_2 (inRn (by omega)) (inRn (by omega)) (inRn (by omega)) ⟨fun z => absurd z (by omega), fun _ => ?_⟩
      rw [wrn (3 * a + k) (by omega) (by omega), wrn (3 * b + k) (by omega) (by omega), Int.toNat_natCast, Int.toNat_natCast]
      refine ⟨by omega, by omega, ?_⟩
      intro I1 e1 v e2 _
      rw [wrn (k + 1) (by omega) (by omega)] at e2
      subst e2
      refine ih (k + 1) I1 (by omega) (fun c c4 => by rw [e1, wt_a _ _ _ _ c4, f1 c c4]) (fun x => ?_)
      have src : rd J 244 (3 * a + k) = rd I 244 (3 * a + k) := by
        rw [f2]
        by_cases c : 3 * b ≤ 3 * a + k ∧ 3 * a + k < 3 * b + k
        · omega
        · rw [if_neg c]
      rw [e1, rd_wt, if_pos rfl, wr_of (rd_in _ _ _), src, f2]
      by_cases c : x = 3 * b + k
      · rw [if_pos c, if_pos (by omega), show 3 * a + (x - 3 * b) = 3 * a + k by omega]
      · rw [if_neg c]
        by_cases c2 : 3 * b ≤ x ∧ x < 3 * b + k
        · rw [if_pos c2, if_pos (by omega)]
        · rw [if_neg c2, if_neg (by omega)]
  refine callV_fl (as' := [.inr (3, 0, 0), .inl (1, (a : Int)), .inl (1, (b : Int))]) rfl ?_
  exact callV_of rfl (b_r_copySlot (inRn (by omega)) (inRn (by omega)) (loop 3 0 I (by omega) (fun _ _ => rfl) (fun x => by rw [if_neg (by omega)])))
set_option maxHeartbeats 1000000 in
theorem c_fillSlot {I : Mm} {K : Mm → Prop} {b fb : Nat} (hb : b < 10800) (hK : ∀ I' : Mm, (∀ c, c ≠ 244 → c ≠ 245 → I' c = I c) → sE I' b = atE I → (∀ p, p ≠ b → sE I' p = sE I p) → K I') : CallV 144 [.inr (3, 0, 0), .inl (fb, (b : Int))] I K := by
  have loop : ∀ (d k : Nat) (J : Mm), k + d = 3 → (∀ c, c ≠ 244 → J c = I c) → (∀ x, rd J 244 x = if 3 * b ≤ x ∧ x < 3 * b + k then rd I 250 (x - 3 * b) else rd I 244 x) → GoA 144 2 [some (.inr (3, 0, 0)), some (.inl (1, (b : Int))), some (.inl (1, (k : Int)))] [] J (rV K) := by
    intro d
    induction d with
    | zero =>
      intro k J hk f1 f2
      refine b_r_fillSlot_2 (inRn (by omega)) (inRn (by omega)) ⟨fun _ => ?_, fun z => absurd (by omega) z⟩
      rw [Int.toNat_natCast]
      refine ⟨by omega, ?_⟩
      intro I1 e1
      have q5 : ∀ x, rd I1 245 x = if x = b then rd I 212 41 else rd I 245 x := fun x => by rw [e1, rd_wt, if_pos rfl, rd_of (f1 _ (by omega)), rd_of (f1 _ (by omega)), wr_of (rd_in _ _ _)]
      have q4 : ∀ x, rd I1 244 x = rd J 244 x := fun x => by rw [e1, rd_wt_a _ _ _ _ (by omega)]
      refine hK I1 (fun c c4 c5 => by rw [e1, wt_a _ _ _ _ c5, f1 c c4]) ?_ (fun p hp => ?_)
      · unfold sE atE
        rw [q4, q4, q4, q5, f2, f2, f2, if_pos (by omega), if_pos (by omega), if_pos (by omega), if_pos rfl, show 3 * b - 3 * b = 0 by omega, show 3 * b + 1 - 3 * b = 1 by omega, show 3 * b + 2 - 3 * b = 2 by omega]
      · unfold sE
        rw [q4, q4, q4, q5, f2, f2, f2, if_neg (by omega), if_neg (by omega), if_neg (by omega), if_neg hp]
    | succ d ih =>
      intro k J hk f1 f2
      refine b_r_fillSlot_2 (inRn (by omega)) (inRn (by omega)) ⟨fun z => absurd z (by omega), fun _ => ?_⟩
      rw [wrn (3 * b + k) (by omega) (by omega), Int.toNat_natCast, Int.toNat_natCast]
      refine ⟨by omega, by omega, ?_⟩
      intro I1 e1 v e2 _
      rw [wrn (k + 1) (by omega) (by omega)] at e2
      subst e2
      refine ih (k + 1) I1 (by omega) (fun c c4 => by rw [e1, wt_a _ _ _ _ c4, f1 c c4]) (fun x => ?_)
      rw [e1, rd_wt, if_pos rfl, wr_of (rd_in _ _ _), rd_of (f1 _ (by omega)), f2]
      by_cases c : x = 3 * b + k
      · rw [if_pos c, if_pos (by omega), show x - 3 * b = k by omega]
      · rw [if_neg c]
        by_cases c2 : 3 * b ≤ x ∧ x < 3 * b + k
        · rw [if_pos c2, if_pos (by omega)]
        · rw [if_neg c2, if_neg (by omega)]
  refine callV_fl (as' := [.inr (3, 0, 0), .inl (1, (b : Int))]) rfl ?_
  exact callV_of rfl (b_r_fillSlot (inRn (by omega)) (loop 3 0 I (by omega) (fun _ _ => rfl) (fun x => by rw [if_neg (by omega)])))
set_option maxHeartbeats 1000000 in
theorem c_takeSlot {I : Mm} {K : Mm → Prop} {b fb : Nat} (hb : b < 10800) (hK : ∀ I' : Mm, (∀ c, c ≠ 212 → c ≠ 250 → I' c = I c) → (∀ k, k ≠ 41 → rd I' 212 k = rd I 212 k) → atE I' = sE I b → K I') : CallV 151 [.inr (3, 0, 0), .inl (fb, (b : Int))] I K := by
  have loop : ∀ (d k : Nat) (J : Mm), k + d = 3 → (∀ c, c ≠ 250 → J c = I c) → (∀ x, x < k → rd J 250 x = rd I 244 (3 * b + x)) → GoA 151 2 [some (.inr (3, 0, 0)), some (.inl (1, (b : Int))), some (.inl (1, (k : Int)))] [] J (rV K) := by
    intro d
    induction d with
    | zero =>
      intro k J hk f1 f2
      refine b_r_takeSlot_2 (inRn (by omega)) (inRn (by omega)) ⟨fun _ => ?_, fun z => absurd (by omega) z⟩
      rw [Int.toNat_natCast]
      refine ⟨by omega, ?_⟩
      intro I1 e1
      refine hK I1 (fun c c4 c5 => by rw [e1, wt_a _ _ _ _ c4, f1 c c5]) (fun k hk => by rw [e1, rd_wt_k _ _ _ _ hk, rd_of (f1 _ (by omega))]) ?_
      unfold atE sE
      rw [e1, rd_wt_a _ _ _ _ (by omega), rd_wt_a _ _ _ _ (by omega), rd_wt_a _ _ _ _ (by omega), rd_wt_s _ _ _ (rd_in _ _ _), f2 0 (by omega), f2 1 (by omega), f2 2 (by omega), rd_of (f1 _ (by omega))]
      rfl
    | succ d ih =>
      intro k J hk f1 f2
      refine b_r_takeSlot_2 (inRn (by omega)) (inRn (by omega)) ⟨fun z => absurd z (by omega), fun _ => ?_⟩
      rw [wrn (3 * b + k) (by omega) (by omega), Int.toNat_natCast, Int.toNat_natCast]
      refine ⟨by omega, by omega, ?_⟩
      intro I1 e1 v e2 _
      rw [wrn (k + 1) (by omega) (by omega)] at e2
      subst e2
      refine ih (k + 1) I1 (by omega) (fun c c4 => by rw [e1, wt_a _ _ _ _ c4, f1 c c4]) (fun x hx => ?_)
      by_cases c : x = k
      · subst c
        rw [e1, rd_wt_s _ _ _ (rd_in _ _ _), rd_of (f1 _ (by omega))]
      · rw [e1, rd_wt_k _ _ _ _ c, f2 x (by omega)]
  refine callV_fl (as' := [.inr (3, 0, 0), .inl (1, (b : Int))]) rfl ?_
  exact callV_of rfl (b_r_takeSlot (inRn (by omega)) (loop 3 0 I (by omega) (fun _ _ => rfl) (fun x hx => absurd hx (by omega))))
def VR (i m : Nat) : Prop := 360 * i ≤ m ∧ m < 360 * i + 360
set_option maxHeartbeats 1000000 in
theorem c_node {I : Mm} {K : Int → Mm → Prop} {i n0 fa : Nat} (hi : i < 6) (hv : VR i n0) (hf : rd I 242 n0 = 0)
    (hK : ∀ (I' : Mm) (n : Nat), VR i n → rd I 242 n = 0 → (∀ c, c ≠ 242 → c ≠ 243 → c ≠ 246 → I' c = I c) → (∀ m, rd I' 242 m = if m = n then 1 else rd I 242 m) → NFr I I' n → rd I' 243 n = 0 → rd I' 246 (6 * n) = -1 → K n I') : CallZ 145 [.inr (3, 0, 0), .inl (fa, (i : Int))] I K := by
  have fill : ∀ (d k n : Nat) (J : Mm), VR i n → rd I 242 n = 0 → k + d = 6 → (∀ c, c ≠ 242 → c ≠ 243 → c ≠ 246 → J c = I c) → (∀ m, rd J 242 m = if m = n then 1 else rd I 242 m) → (∀ m, rd J 243 m = if m = n then 0 else rd I 243 m) → (∀ x, (x < 6 * n ∨ 6 * n + 6 ≤ x) → rd J 246 x = rd I 246 x) → (∀ x, x < k → rd J 246 (6 * n + x) = -1) → GoA 145 37 [some (.inr (3, 0, 0)), some (.inl (1, (i : Int))), some (.inl (1, (n : Int))), some (.inl (1, (k : Int)))] [] J (rZ K) := by
    intro d
    induction d with
    | zero =>
      intro k n J hv h0 hk f1 f2 f3 f4 f5
      unfold VR at hv
      refine b_r_node_37 (okO_s (okF_1 (inRn (by omega)) 1)) (inRn (by omega)) (inRn (by omega)) ⟨fun _ => ?_, fun z => absurd (by omega) z⟩
      refine hK J n hv h0 f1 f2 ⟨fun p _ => sE_of (f1 _ (by omega) (by omega) (by omega)) (f1 _ (by omega) (by omega) (by omega)) p, f4, fun m hm => by rw [f3, if_neg hm]⟩ (by rw [f3, if_pos rfl]) ?_
      exact f5 0 (by omega)
    | succ d ih =>
      intro k n J hv h0 hk f1 f2 f3 f4 f5
      have hv' := hv
      unfold VR at hv
      refine b_r_node_37 (okO_s (okF_1 (inRn (by omega)) 1)) (inRn (by omega)) (inRn (by omega)) ⟨fun z => absurd z (by omega), fun _ => ?_⟩
      rw [wrn (6 * n + k) (by omega) (by omega), Int.toNat_natCast]
      refine ⟨by omega, ?_⟩
      intro I1 e1 v e2 _
      rw [wrn (k + 1) (by omega) (by omega)] at e2
      subst e2
      refine ih (k + 1) n I1 hv' h0 (by omega) (fun c c2 c3 c6 => by rw [e1, wt_a _ _ _ _ c6, f1 c c2 c3 c6]) (fun m => by rw [e1, rd_wt_a _ _ _ _ (by omega), f2]) (fun m => by rw [e1, rd_wt_a _ _ _ _ (by omega), f3]) (fun x hx => by rw [e1, rd_wt_k _ _ _ _ (by omega), f4 x hx]) (fun x hx => ?_)
      by_cases c : x = k
      · subst c
        rw [e1, rd_wt_s _ _ _ ⟨by omega, by omega⟩]
      · rw [e1, rd_wt_k _ _ _ _ (by omega), f5 x (by omega)]
  have look : ∀ (d n : Nat) (m3 : Option AV), okO m3 → n + d = n0 → VR i n → GoA 145 6 [some (.inr (3, 0, 0)), some (.inl (1, (i : Int))), some (.inl (1, (n : Int))), m3] [] I (rZ K) := by
    have here : ∀ (n : Nat) (m3 : Option AV), okO m3 → VR i n → rd I 242 n = 0 → GoA 145 6 [some (.inr (3, 0, 0)), some (.inl (1, (i : Int))), some (.inl (1, (n : Int))), m3] [] I (rZ K) := by
      intro n m3 h3 hv h0
      have hv' := hv
      unfold VR at hv
      refine b_r_node_6 (okO_s (okF_1 (inRn (by omega)) 1)) (inRn (by omega)) h3 ?_
      rw [Int.toNat_natCast]
      refine ⟨by omega, fun _ => ⟨by omega, ?_⟩, fun z => absurd h0 z⟩
      intro I1 e1
      refine ⟨by omega, ?_⟩
      intro I2 e2
      exact fill 6 0 n I2 hv' h0 (by omega) (fun c c2 c3 c6 => by rw [e2, wt_a _ _ _ _ c3, e1, wt_a _ _ _ _ c2]) (fun m => by rw [e2, rd_wt_a _ _ _ _ (by omega), e1, rd_wt, if_pos rfl, wrx (by omega) (by omega)]) (fun m => by rw [e2, rd_wt, if_pos rfl, wrx (by omega) (by omega), e1, rd_wt_a _ _ _ _ (by omega)]) (fun x _ => by rw [e2, rd_wt_a _ _ _ _ (by omega), e1, rd_wt_a _ _ _ _ (by omega)]) (fun x hx => absurd hx (by omega))
    intro d
    induction d with
    | zero =>
      intro n m3 h3 hd hv
      have : n = n0 := by omega
      subst this
      exact here n m3 h3 hv hf
    | succ d ih =>
      intro n m3 h3 hd hvn
      by_cases c : rd I 242 n = 0
      · exact here n m3 h3 hvn c
      · have hv' := hvn
        unfold VR at hvn hv
        refine b_r_node_6 (okO_s (okF_1 (inRn (by omega)) 1)) (inRn (by omega)) h3 ?_
        rw [Int.toNat_natCast]
        refine ⟨by omega, fun z => absurd z c, fun _ => ?_⟩
        intro v2 e2 _
        rw [wrn (n + 1) (by omega) (by omega)] at e2
        subst e2
        exact ih (n + 1) m3 h3 (by omega) (by unfold VR; omega)
  refine callZ_fl (as' := [.inr (3, 0, 0), .inl (1, (i : Int))]) rfl ?_
  refine callZ_of rfl (b_r_node (inRn (by omega)) ?_)
  intro v2 e2 _
  rw [wrn (360 * i) (by omega) (by omega)] at e2
  subst e2
  unfold VR at hv
  exact look (n0 - 360 * i) (360 * i) none okO_n (by omega) (by unfold VR; omega)
set_option maxHeartbeats 2000000 in
theorem c_addAt {I : Mm} {K : Mm → Prop} {n k s fa fb fc : Nat} {ri : Int} (hn : n < 2160) (hs : rd I 243 n = s) (hs4 : s ≤ 4) (hk : k ≤ s) (hri : inR ri)
    (hK : ∀ I' : Mm, (∀ c, c ≠ 243 → c ≠ 244 → c ≠ 245 → c ≠ 246 → I' c = I c) → NFr I I' n → rd I' 243 n = s + 1 → rks I' n = insL (rks I n) k (atE I) → rcs I' n = insL (rcs I n) (k + 1) ri → K I') : CallV 150 [.inr (3, 0, 0), .inl (fa, (n : Int)), .inl (fb, (k : Int)), .inl (fc, ri)] I K := by
  have at_of : ∀ J : Mm, (∀ c, c ≠ 244 → c ≠ 245 → c ≠ 246 → J c = I c) → atE J = atE I := fun J h => by
    unfold atE
    rw [rd_of (h _ (by omega) (by omega) (by omega)), rd_of (h _ (by omega) (by omega) (by omega)), rd_of (h _ (by omega) (by omega) (by omega)), rd_of (h _ (by omega) (by omega) (by omega))]
  have loop2 : ∀ (d j : Nat) (J : Mm), j = k + 1 + d → j ≤ s + 1 → (∀ c, c ≠ 244 → c ≠ 245 → c ≠ 246 → J c = I c) → (∀ p, (p < 5 * n ∨ 5 * n + 5 ≤ p) → sE J p = sE I p) → (∀ x, x < k → sE J (5 * n + x) = sE I (5 * n + x)) → (∀ x, k ≤ x → x < s → sE J (5 * n + (x + 1)) = sE I (5 * n + x)) → (∀ x, (x < 6 * n ∨ 6 * n + 6 ≤ x) → rd J 246 x = rd I 246 x) → (∀ x, x ≤ j → x ≤ s → rd J 246 (6 * n + x) = rd I 246 (6 * n + x)) → (∀ x, j ≤ x → x ≤ s → rd J 246 (6 * n + (x + 1)) = rd I 246 (6 * n + x)) → GoA 150 48 [some (.inr (3, 0, 0)), some (.inl (1, (n : Int))), some (.inl (1, (k : Int))), some (.inl (1, ri)), some (.inl (1, (j : Int)))] [] J (rV K) := by
    intro d
    induction d with
    | zero =>
      intro j J hj hjs f1 f2 f3 f4 f5 f6 f7
      refine b_r_addAt_48 (inRn (by omega)) (inRn (by omega)) hri (inRn (by omega)) ⟨fun _ => ?_, fun z => absurd (by rw [wrn (k + 1) (by omega) (by omega)]; omega) z⟩
      rw [show 5 * (n : Int) + (k : Int) = ((5 * n + k : Nat) : Int) by omega]
      refine c_fillSlot (by omega) ?_
      intro I1 g1 g2 g3
      rw [wrn (6 * n + k + 1) (by omega) (by omega), Int.toNat_natCast]
      refine ⟨by omega, ?_⟩
      intro I2 e2
      have r3 : rd I2 243 n = s := by rw [e2, rd_wt_a _ _ _ _ (by omega), rd_of (g1 _ (by omega) (by omega)), rd_of (f1 _ (by omega) (by omega) (by omega)), hs]
      rw [Int.toNat_natCast, r3]
      refine ⟨by omega, by omega, ?_⟩
      intro I3 e3
      have s3 : ∀ p, sE I3 p = sE I1 p := fun p => sE_of (by rw [e3, wt_a _ _ _ _ (by omega), e2, wt_a _ _ _ _ (by omega)]) (by rw [e3, wt_a _ _ _ _ (by omega), e2, wt_a _ _ _ _ (by omega)]) p
      have k3 : ∀ x, rd I3 246 x = if x = 6 * n + k + 1 then ri else rd J 246 x := fun x => by rw [e3, rd_wt_a _ _ _ _ (by omega), e2, rd_wt, if_pos rfl, wr_of hri, rd_of (g1 _ (by omega) (by omega))]
      have c3 : ∀ m, rd I3 243 m = if m = n then (s : Int) + 1 else rd I 243 m := fun m => by rw [e3, rd_wt, if_pos rfl, wrx (by omega) (by omega), e2, rd_wt_a _ _ _ _ (by omega), rd_of (g1 _ (by omega) (by omega)), rd_of (f1 _ (by omega) (by omega) (by omega))]
      refine hK I3 (fun c c3 c4 c5 c6 => by rw [e3, wt_a _ _ _ _ c3, e2, wt_a _ _ _ _ c6, g1 c c4 c5, f1 c c4 c5 c6]) ⟨fun p hp => by rw [s3, g3 p (by omega), f2 p hp], fun x hx => by rw [k3, if_neg (by omega), f5 x hx], fun m hm => by rw [c3, if_neg hm]⟩ (by rw [c3, if_pos rfl]) ?_ ?_
      · unfold rks
        rw [c3, if_pos rfl, hs, show ((s : Int) + 1).toNat = s + 1 by omega, Int.toNat_natCast]
        refine sgA_ins hk (fun x hx => by rw [s3, g3 _ (by omega), f3 x hx]) (by rw [s3, g2, at_of J f1]) (fun x h1 h2 => by rw [s3, g3 _ (by omega), f4 x h1 h2])
      · unfold rcs
        rw [c3, if_pos rfl, hs, show ((s : Int) + 1).toNat = s + 1 by omega, Int.toNat_natCast]
        refine seg_ins (by omega) (fun x hx => by rw [k3, if_neg (by omega), f6 x (by omega) (by omega)]) (by rw [k3, if_pos (by omega)]) (fun x h1 h2 => by rw [k3, if_neg (by omega), f7 x (by omega) (by omega)])
    | succ d ih =>
      intro j J hj hjs f1 f2 f3 f4 f5 f6 f7
      refine b_r_addAt_48 (inRn (by omega)) (inRn (by omega)) hri (inRn (by omega)) ⟨fun z => absurd z (by rw [wrn (k + 1) (by omega) (by omega)]; omega), fun _ => ?_⟩
      rw [wrn (6 * n + (j - 1)) (by omega) (by omega), wrn (6 * n + j) (by omega) (by omega), Int.toNat_natCast, Int.toNat_natCast]
      refine ⟨by omega, by omega, ?_⟩
      intro I4 e4 v e5 _
      rw [wrn (j - 1) (by omega) (by omega)] at e5
      subst e5
      have k4 : ∀ x, rd I4 246 x = if x = 6 * n + j then rd I 246 (6 * n + (j - 1)) else rd J 246 x := fun x => by rw [e4, rd_wt, if_pos rfl, wr_of (rd_in _ _ _), f6 (j - 1) (by omega) (by omega)]
      have s4 : ∀ p, sE I4 p = sE J p := fun p => sE_of (by rw [e4, wt_a _ _ _ _ (by omega)]) (by rw [e4, wt_a _ _ _ _ (by omega)]) p
      refine ih (j - 1) I4 (by omega) (by omega) (fun c c4 c5 c6 => by rw [e4, wt_a _ _ _ _ c6, f1 c c4 c5 c6]) (fun p hp => by rw [s4, f2 p hp]) (fun x hx => by rw [s4, f3 x hx]) (fun x h1 h2 => by rw [s4, f4 x h1 h2]) (fun x hx => by rw [k4, if_neg (by omega), f5 x hx]) (fun x h1 h2 => by rw [k4, if_neg (by omega), f6 x (by omega) h2]) (fun x h1 h2 => ?_)
      by_cases c : x = j - 1
      · subst c
        rw [k4, if_pos (by omega)]
      · rw [k4, if_neg (by omega), f7 x (by omega) h2]
  have loop1 : ∀ (d j : Nat) (J : Mm), j = k + d → j ≤ s → (∀ c, c ≠ 244 → c ≠ 245 → J c = I c) → (∀ p, (p < 5 * n ∨ 5 * n + 5 ≤ p) → sE J p = sE I p) → (∀ x, x < j → sE J (5 * n + x) = sE I (5 * n + x)) → (∀ x, j ≤ x → x < s → sE J (5 * n + (x + 1)) = sE I (5 * n + x)) → GoA 150 8 [some (.inr (3, 0, 0)), some (.inl (1, (n : Int))), some (.inl (1, (k : Int))), some (.inl (1, ri)), some (.inl (1, (j : Int)))] [] J (rV K) := by
    intro d
    induction d with
    | zero =>
      intro j J hj hjs f1 f2 f3 f4
      have : j = k := by omega
      subst this
      refine b_r_addAt_8 (inRn (by omega)) (inRn (by omega)) hri (inRn (by omega)) ⟨fun _ => ⟨by omega, ?_⟩, fun z => absurd (by omega) z⟩
      intro v e5 _
      rw [Int.toNat_natCast, rd_of (f1 _ (by omega) (by omega)), hs, wrn (s + 1) (by omega) (by omega)] at e5
      subst e5
      exact loop2 (s - j) (s + 1) J (by omega) (by omega) (fun c c4 c5 _ => f1 c c4 c5) f2 f3 f4 (fun x _ => rd_of (f1 _ (by omega) (by omega)) x) (fun x _ _ => rd_of (f1 _ (by omega) (by omega)) _) (fun x h1 h2 => absurd h1 (by omega))
    | succ d ih =>
      intro j J hj hjs f1 f2 f3 f4
      refine b_r_addAt_8 (inRn (by omega)) (inRn (by omega)) hri (inRn (by omega)) ⟨fun z => absurd z (by omega), fun _ => ?_⟩
      rw [show 5 * (n : Int) + (j : Int) - 1 = ((5 * n + (j - 1) : Nat) : Int) by omega, show 5 * (n : Int) + (j : Int) = ((5 * n + j : Nat) : Int) by omega]
      refine c_copySlot (by omega) (by omega) ?_
      intro I1 g1 g2 g3 v e5 _
      rw [wrn (j - 1) (by omega) (by omega)] at e5
      subst e5
      refine ih (j - 1) I1 (by omega) (by omega) (fun c c4 c5 => by rw [g1 c c4 c5, f1 c c4 c5]) (fun p hp => by rw [g3 p (by omega), f2 p hp]) (fun x hx => by rw [g3 _ (by omega), f3 x (by omega)]) (fun x h1 h2 => ?_)
      by_cases c : x = j - 1
      · subst c
        rw [show 5 * n + (j - 1 + 1) = 5 * n + j by omega, g2, f3 (j - 1) (by omega)]
      · rw [g3 _ (by omega), f4 x (by omega) h2]
  refine callV_fl (as' := [.inr (3, 0, 0), .inl (1, (n : Int)), .inl (1, (k : Int)), .inl (1, ri)]) rfl ?_
  refine callV_of rfl (b_r_addAt (inRn (by omega)) (inRn (by omega)) hri ⟨by omega, ?_⟩)
  intro v e5 _
  rw [Int.toNat_natCast, hs] at e5
  subst e5
  exact loop1 (s - k) s I (by omega) (by omega) (fun _ _ _ => rfl) (fun _ _ => rfl) (fun _ _ => rfl) (fun x h1 h2 => absurd h2 (by omega))
set_option maxHeartbeats 2000000 in
theorem c_rtakeOut {I : Mm} {K : Mm → Prop} {n k dr s fa fb fc : Nat} (hn : n < 2160) (hs : rd I 243 n = s) (hs5 : s ≤ 5) (hk : k < s) (hdr : dr ≤ s)
    (hK : ∀ I' : Mm, (∀ c, c ≠ 243 → c ≠ 244 → c ≠ 245 → c ≠ 246 → I' c = I c) → NFr I I' n → rd I' 243 n = s - 1 → rks I' n = remL (rks I n) k → rcs I' n = remL (rcs I n) dr → K I') : CallV 153 [.inr (3, 0, 0), .inl (fa, (n : Int)), .inl (fb, (k : Int)), .inl (fc, (dr : Int))] I K := by
  have loop2 : ∀ (d j : Nat) (J : Mm) (m2 m3 : Option AV), okO m2 → okO m3 → j + d = s → dr ≤ j → (∀ c, c ≠ 244 → c ≠ 245 → c ≠ 246 → J c = I c) → (∀ p, (p < 5 * n ∨ 5 * n + 5 ≤ p) → sE J p = sE I p) → (∀ x, x < k → sE J (5 * n + x) = sE I (5 * n + x)) → (∀ x, k ≤ x → x + 1 < s → sE J (5 * n + x) = sE I (5 * n + (x + 1))) → (∀ x, (x < 6 * n ∨ 6 * n + 6 ≤ x) → rd J 246 x = rd I 246 x) → (∀ x, (x < dr ∨ j ≤ x) → x ≤ s → rd J 246 (6 * n + x) = rd I 246 (6 * n + x)) → (∀ x, dr ≤ x → x < j → rd J 246 (6 * n + x) = rd I 246 (6 * n + (x + 1))) → GoA 153 43 [some (.inr (3, 0, 0)), some (.inl (1, (n : Int))), m2, m3, some (.inl (1, (j : Int)))] [] J (rV K) := by
    intro d
    induction d with
    | zero =>
      intro j J m2 m3 o2 o3 hj hdj f1 f2 f3 f4 f5 f6 f7
      have : j = s := by omega
      subst this
      have r3 : rd J 243 n = j := by rw [rd_of (f1 _ (by omega) (by omega) (by omega)), hs]
      refine b_r_takeOut_43 (inRn (by omega)) o2 o3 (inRn (by omega)) ?_
      rw [Int.toNat_natCast, r3]
      refine ⟨by omega, fun _ => ⟨by omega, ?_⟩, fun z => absurd (by omega) z⟩
      rw [wrn (6 * n + j) (by omega) (by omega), Int.toNat_natCast]
      refine ⟨by omega, ?_⟩
      intro I1 e1
      have r1 : rd I1 243 n = j := by rw [e1, rd_wt_a _ _ _ _ (by omega), r3]
      rw [r1]
      refine ⟨by omega, by omega, ?_⟩
      intro I2 e2
      have s2 : ∀ p, sE I2 p = sE J p := fun p => sE_of (by rw [e2, wt_a _ _ _ _ (by omega), e1, wt_a _ _ _ _ (by omega)]) (by rw [e2, wt_a _ _ _ _ (by omega), e1, wt_a _ _ _ _ (by omega)]) p
      have k2 : ∀ x, rd I2 246 x = if x = 6 * n + j then -1 else rd J 246 x := fun x => by rw [e2, rd_wt_a _ _ _ _ (by omega), e1, rd_wt, if_pos rfl, wrx (by omega) (by omega)]
      have c2 : ∀ m, rd I2 243 m = if m = n then (j : Int) - 1 else rd I 243 m := fun m => by rw [e2, rd_wt, if_pos rfl, wrx (by omega) (by omega), e1, rd_wt_a _ _ _ _ (by omega), rd_of (f1 _ (by omega) (by omega) (by omega))]
      refine hK I2 (fun c c3 c4 c5 c6 => by rw [e2, wt_a _ _ _ _ c3, e1, wt_a _ _ _ _ c6, f1 c c4 c5 c6]) ⟨fun p hp => by rw [s2, f2 p hp], fun x hx => by rw [k2, if_neg (by omega), f5 x hx], fun m hm => by rw [c2, if_neg hm]⟩ (by rw [c2, if_pos rfl]) ?_ ?_
      · unfold rks
        rw [c2, if_pos rfl, hs, show ((j : Int) - 1).toNat = j - 1 by omega, Int.toNat_natCast]
        exact sgA_rem hk (fun x hx => by rw [s2, f3 x hx]) (fun x h1 h2 => by rw [s2, f4 x h1 h2])
      · unfold rcs
        rw [c2, if_pos rfl, hs, show ((j : Int) - 1).toNat = j - 1 by omega, Int.toNat_natCast, show j - 1 + 1 = j + 1 - 1 by omega]
        exact seg_rem (by omega) (fun x hx => by rw [k2, if_neg (by omega), f6 x (by omega) (by omega)]) (fun x h1 h2 => by rw [k2, if_neg (by omega), f7 x h1 (by omega)])
    | succ d ih =>
      intro j J m2 m3 o2 o3 hj hdj f1 f2 f3 f4 f5 f6 f7
      have r3 : rd J 243 n = s := by rw [rd_of (f1 _ (by omega) (by omega) (by omega)), hs]
      refine b_r_takeOut_43 (inRn (by omega)) o2 o3 (inRn (by omega)) ?_
      rw [Int.toNat_natCast, r3]
      refine ⟨by omega, fun z => absurd z (by omega), fun _ => ?_⟩
      rw [wrn (6 * n + (j + 1)) (by omega) (by omega), wrn (6 * n + j) (by omega) (by omega), Int.toNat_natCast, Int.toNat_natCast]
      refine ⟨by omega, by omega, ?_⟩
      intro I3 e3 v e5 _
      rw [wrn (j + 1) (by omega) (by omega)] at e5
      subst e5
      have k3 : ∀ x, rd I3 246 x = if x = 6 * n + j then rd I 246 (6 * n + (j + 1)) else rd J 246 x := fun x => by rw [e3, rd_wt, if_pos rfl, wr_of (rd_in _ _ _), f6 (j + 1) (by omega) (by omega)]
      have s3 : ∀ p, sE I3 p = sE J p := fun p => sE_of (by rw [e3, wt_a _ _ _ _ (by omega)]) (by rw [e3, wt_a _ _ _ _ (by omega)]) p
      refine ih (j + 1) I3 m2 m3 o2 o3 (by omega) (by omega) (fun c c4 c5 c6 => by rw [e3, wt_a _ _ _ _ c6, f1 c c4 c5 c6]) (fun p hp => by rw [s3, f2 p hp]) (fun x hx => by rw [s3, f3 x hx]) (fun x h1 h2 => by rw [s3, f4 x h1 h2]) (fun x hx => by rw [k3, if_neg (by omega), f5 x hx]) (fun x h1 h2 => by rw [k3, if_neg (by omega), f6 x (by omega) h2]) (fun x h1 h2 => ?_)
      by_cases c : x = j
      · subst c
        rw [k3, if_pos rfl]
      · rw [k3, if_neg (by omega), f7 x h1 (by omega)]
  have loop1 : ∀ (d j : Nat) (J : Mm) (m2 : Option AV), okO m2 → j + 1 + d = s → k ≤ j → (∀ c, c ≠ 244 → c ≠ 245 → J c = I c) → (∀ p, (p < 5 * n ∨ 5 * n + 5 ≤ p) → sE J p = sE I p) → (∀ x, (x < k ∨ j ≤ x) → x < s → sE J (5 * n + x) = sE I (5 * n + x)) → (∀ x, k ≤ x → x < j → sE J (5 * n + x) = sE I (5 * n + (x + 1))) → GoA 153 3 [some (.inr (3, 0, 0)), some (.inl (1, (n : Int))), m2, some (.inl (1, (dr : Int))), some (.inl (1, (j : Int)))] [] J (rV K) := by
    intro d
    induction d with
    | zero =>
      intro j J m2 o2 hj hkj f1 f2 f3 f4
      have r3 : rd J 243 n = s := by rw [rd_of (f1 _ (by omega) (by omega)), hs]
      refine b_r_takeOut_3 (inRn (by omega)) o2 (inRn (by omega)) (inRn (by omega)) ?_
      rw [Int.toNat_natCast, r3, wrn (j + 1) (by omega) (by omega)]
      refine ⟨by omega, fun _ => ?_, fun z => absurd (by omega) z⟩
      intro v e5 _
      subst e5
      exact loop2 (s - dr) dr J m2 _ o2 (okO_s (okF_1 (inRn (by omega)) 1)) (by omega) (by omega) (fun c c4 c5 _ => f1 c c4 c5) f2 (fun x hx => f3 x (by omega) (by omega)) (fun x h1 h2 => f4 x h1 (by omega)) (fun x _ => rd_of (f1 _ (by omega) (by omega)) x) (fun x _ _ => rd_of (f1 _ (by omega) (by omega)) _) (fun x h1 h2 => absurd h1 (by omega))
    | succ d ih =>
      intro j J m2 o2 hj hkj f1 f2 f3 f4
      have r3 : rd J 243 n = s := by rw [rd_of (f1 _ (by omega) (by omega)), hs]
      refine b_r_takeOut_3 (inRn (by omega)) o2 (inRn (by omega)) (inRn (by omega)) ?_
      rw [Int.toNat_natCast, r3, wrn (j + 1) (by omega) (by omega)]
      refine ⟨by omega, fun z => absurd z (by omega), fun _ => ?_⟩
      rw [show 5 * (n : Int) + (j : Int) + 1 = ((5 * n + (j + 1) : Nat) : Int) by omega, show 5 * (n : Int) + (j : Int) = ((5 * n + j : Nat) : Int) by omega]
      refine c_copySlot (by omega) (by omega) ?_
      intro I1 g1 g2 g3 v e5 _
      subst e5
      refine ih (j + 1) I1 m2 o2 (by omega) (by omega) (fun c c4 c5 => by rw [g1 c c4 c5, f1 c c4 c5]) (fun p hp => by rw [g3 p (by omega), f2 p hp]) (fun x h1 h2 => by rw [g3 _ (by omega), f3 x (by omega) h2]) (fun x h1 h2 => ?_)
      by_cases c : x = j
      · subst c
        rw [g2, f3 (x + 1) (by omega) (by omega)]
      · rw [g3 _ (by omega), f4 x h1 (by omega)]
  refine callV_fl (as' := [.inr (3, 0, 0), .inl (1, (n : Int)), .inl (1, (k : Int)), .inl (1, (dr : Int))]) rfl ?_
  refine callV_of rfl (b_r_takeOut (inRn (by omega)) (inRn (by omega)) (inRn (by omega)) ?_)
  intro v e5 _
  subst e5
  exact loop1 (s - k - 1) k I _ (okO_s (okF_1 (inRn (by omega)) 1)) (by omega) (Nat.le_refl _) (fun _ _ _ => rfl) (fun _ _ => rfl) (fun _ _ _ => rfl) (fun x h1 h2 => absurd h1 (by omega))
