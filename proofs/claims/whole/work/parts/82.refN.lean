/-! THE REFERENCE: count, audit -/
set_option maxHeartbeats 2000000 in
theorem c_rcount {I : Mm} {K : Int → Mm → Prop} {S : St} {w : Int} (iw : inR w) (hS : RSR I S) (hK : K (oCount S w) I) : CallZ 209 [.inr (3, 0, 0), .inl (1, w)] I K := by
  unfold oCount at hK
  have res : ∀ n : Nat, (0 ≤ w → w ≤ 3 → K n I) → (w < 0 → rZ K (some (.inl (2, (-102)))) I) ∧ (¬ w < 0 → (3 < w → rZ K (some (.inl (2, (-102)))) I) ∧ (¬ 3 < w → rZ K (some (.inl (1, (n : Int)))) I)) := fun n hn => by
    have bad : (w < 0 ∨ 3 < w) → K (-102) I := fun c => by rw [if_neg (by omega), if_neg (by omega), if_neg (by omega), if_neg (by omega)] at hK; exact hK
    exact ⟨fun z => bad (Or.inl z), fun z => ⟨fun z2 => bad (Or.inr z2), fun z2 => hn (by omega) (by omega)⟩⟩
  have l75 : ∀ (d i n : Nat), i + d = 6 → n ≤ 320 + i → (w = 0 ∨ w = 1 → K n I) → (w = 2 → n + cntN (fun i => decide (¬ xU (sX S i) = 0)) d i = cntN (fun i => decide (¬ xU (sX S i) = 0)) 6 0) → (w = 3 → n + cntN (fun i => rdy (sX S i)) d i = cntN (fun i => rdy (sX S i)) 6 0) → GoA 209 75 [some (.inr (3, 0, 0)), some (.inl (1, w)), some (.inl (1, (n : Int))), some (.inl (1, (i : Int)))] [] I (rZ K) := by
    intro d
    induction d with
    | zero =>
      intro i n hi hn h01 h2 h3
      refine b_r_count_75 iw (inRn (by omega)) (inRn (by omega)) ⟨fun _ => res n (fun w0 w3 => ?_), fun z => absurd (by omega) z⟩
      by_cases c : w = 0 ∨ w = 1
      · exact h01 c
      · by_cases c2 : w = 2
        · have e : n = _ := h2 c2
          rw [if_neg (by omega), if_neg (by omega), if_pos c2, ← e] at hK
          exact hK
        · have c3 : w = 3 := by omega
          have e : n = _ := h3 c3
          rw [if_neg (by omega), if_neg (by omega), if_neg (by omega), if_pos c3, ← e] at hK
          exact hK
    | succ d ih =>
      intro i n hi hn h01 h2 h3
      have hx := hS.2.2.1.2 i (by omega)
      have h2 : w = 2 → n + ((if decide (¬ xU (sX S i) = 0) = true then 1 else 0) + cntN (fun i => decide (¬ xU (sX S i) = 0)) d (i + 1)) = cntN (fun i => decide (¬ xU (sX S i) = 0)) 6 0 := h2
      have h3 : w = 3 → n + ((if rdy (sX S i) = true then 1 else 0) + cntN (fun i => rdy (sX S i)) d (i + 1)) = cntN (fun i => rdy (sX S i)) 6 0 := h3
      have rs : ¬ (w = 2 ∨ w = 3) → (w < 0 → rZ K (some (.inl (2, (-102)))) I) ∧ (¬ w < 0 → (3 < w → rZ K (some (.inl (2, (-102)))) I) ∧ (¬ 3 < w → rZ K (some (.inl (1, (n : Int)))) I)) := fun c => res n (fun w0 w3 => h01 (by omega))
      have nx : ∀ (x : Nat) (v2 v3 : Int), (w = 2 ∨ w = 3) → v2 = ((n + x : Nat) : Int) → x ≤ 1 → (w = 2 → x = if decide (¬ xU (sX S i) = 0) = true then 1 else 0) → (w = 3 → x = if rdy (sX S i) = true then 1 else 0) → v3 = wr ((i : Int) + 1) → GoA 209 75 [some (.inr (3, 0, 0)), some (.inl (1, w)), some (.inl (1, v2)), some (.inl (1, v3))] [] I (rZ K) := fun x v2 v3 hw e2 hx1 y2 y3 e3 => by
        rw [wrn (i + 1) (by omega) (by omega)] at e3
        subst e2; subst e3
        exact ih (i + 1) (n + x) (by omega) (by omega) (fun c => by omega) (fun c => by have := h2 c; rw [← y2 c] at this; omega) (fun c => by have := h3 c; rw [← y3 c] at this; omega)
      have n0 : ∀ v2 : Int, v2 = (n : Int) → v2 = ((n + 0 : Nat) : Int) := fun v2 e => e
      have n1 : ∀ v2 : Int, v2 = wr ((n : Int) + 1) → v2 = ((n + 1 : Nat) : Int) := fun v2 e => by rw [wrn (n + 1) (by omega) (by omega)] at e; exact e
      refine b_r_count_75 iw (inRn (by omega)) (inRn (by omega)) ⟨fun z => absurd z (by omega), fun _ => ⟨fun z => rs (by omega), fun z => ⟨fun z2 => rs (by omega), fun z2 => ?_⟩⟩⟩
      rw [Int.toNat_natCast, hx.1]
      refine ⟨fun w2 => ⟨by omega, fun y v2 e2 _ v3 e3 _ => ?_, fun y v2 e2 _ v3 e3 _ => ?_⟩, fun w2 => ⟨fun z => absurd z (by omega), fun _ => ⟨fun z => absurd z (by omega), fun _ => ⟨by omega, fun y v2 e2 _ v3 e3 _ => ?_, fun y => ⟨by omega, ?_⟩⟩⟩⟩⟩
      · exact nx 0 v2 v3 (Or.inl w2) (n0 v2 e2) (by omega) (fun _ => by rw [decide_eq_false (fun c => c y)]; rfl) (fun c => absurd c (by omega)) e3
      · exact nx 1 v2 v3 (Or.inl w2) (n1 v2 e2) (by omega) (fun _ => by rw [decide_eq_true y]; rfl) (fun c => absurd c (by omega)) e3
      · exact nx 0 v2 v3 (Or.inr (by omega)) (n0 v2 e2) (by omega) (fun c => absurd c w2) (fun _ => by unfold rdy; rw [decide_eq_false (fun c => c.1 y)]; rfl) e3
      · rw [(hx.2 y).2.2.2.1.1]
        refine ⟨fun y2 v2 e2 _ v3 e3 _ => ?_, fun y2 v2 e2 _ v3 e3 _ => ?_⟩
        · exact nx 1 v2 v3 (Or.inr (by omega)) (n1 v2 e2) (by omega) (fun c => absurd c w2) (fun _ => by unfold rdy; rw [decide_eq_true ⟨y, y2⟩]; rfl) e3
        · exact nx 0 v2 v3 (Or.inr (by omega)) (n0 v2 e2) (by omega) (fun c => absurd c w2) (fun _ => by unfold rdy; rw [decide_eq_false (fun c => y2 c.2)]; rfl) e3
  have go75 : ∀ n : Nat, n ≤ 320 → (w = 0 ∨ w = 1 → K n I) → (¬ (w = 0 ∨ w = 1) → n = 0) → GoA 209 75 [some (.inr (3, 0, 0)), some (.inl (1, w)), some (.inl (1, (n : Int))), some (.inl (2, 0))] [] I (rZ K) := fun n hn h01 h0 => l75 6 0 n (by omega) (by omega) h01 (fun c => by have := h0 (by omega); omega) (fun c => by have := h0 (by omega); omega)
  have l39 : ∀ (d t n : Nat), t + d = 8 → n ≤ 320 → (w = 0 → K n I) → (¬ w = 0 → n ≤ t) → (w = 1 → n + cntN (fun t => decide (¬ sA S t = 0)) d t = cntN (fun t => decide (¬ sA S t = 0)) 8 0) → (¬ (w = 0 ∨ w = 1) → n = 0) → GoA 209 39 [some (.inr (3, 0, 0)), some (.inl (1, w)), some (.inl (1, (n : Int))), some (.inl (1, (t : Int)))] [] I (rZ K) := by
    intro d
    induction d with
    | zero =>
      intro t n ht hn h0 hn1 h1 hz
      refine b_r_count_39 iw (inRn (by omega)) (inRn (by omega)) ⟨fun _ => go75 n hn (fun c => ?_) hz, fun z => absurd (by omega) z⟩
      by_cases c0 : w = 0
      · exact h0 c0
      · have c1 : w = 1 := by omega
        have e : n = _ := h1 c1
        rw [if_neg c0, if_pos c1, ← e] at hK
        exact hK
    | succ d ih =>
      intro t n ht hn h0 hn1 h1 hz
      have hx := (hS.2.1 t (by omega)).1
      refine b_r_count_39 iw (inRn (by omega)) (inRn (by omega)) ⟨fun z => absurd z (by omega), fun _ => ⟨fun w1 => ⟨by omega, ?_⟩, fun w1 => go75 n hn (fun c => ?_) hz⟩⟩
      · have h1 : n + ((if decide (¬ sA S t = 0) = true then 1 else 0) + cntN (fun t => decide (¬ sA S t = 0)) d (t + 1)) = cntN (fun t => decide (¬ sA S t = 0)) 8 0 := h1 w1
        have nt := hn1 (by omega)
        rw [Int.toNat_natCast, hx]
        refine ⟨fun y v2 e2 _ v3 e3 _ => ?_, fun y v2 e2 _ v3 e3 _ => ?_⟩
        · rw [wrn (t + 1) (by omega) (by omega)] at e3
          subst e2; subst e3
          rw [decide_eq_false (fun c => c y)] at h1
          simp only [Bool.false_eq_true, if_false, Nat.zero_add] at h1
          exact ih (t + 1) n (by omega) hn h0 (fun _ => by omega) (fun _ => h1) hz
        · rw [wrn (t + 1) (by omega) (by omega)] at e3
          rw [wrn (n + 1) (by omega) (by omega)] at e2
          subst e2; subst e3
          rw [decide_eq_true y] at h1
          simp only [if_true] at h1
          exact ih (t + 1) (n + 1) (by omega) (by omega) (fun c => by omega) (fun _ => by omega) (fun _ => by omega) (fun c => by omega)
      · exact h0 (by omega)
  have go39 : ∀ n : Nat, n ≤ 320 → (w = 0 → K n I) → (¬ w = 0 → n = 0) → GoA 209 39 [some (.inr (3, 0, 0)), some (.inl (1, w)), some (.inl (1, (n : Int))), some (.inl (2, 0))] [] I (rZ K) := fun n hn h0 hz => l39 8 0 n (by omega) hn h0 (fun c => by have := hz c; omega) (fun c => by have := hz (by omega); omega) (fun c => hz (by omega))
  have l4 : ∀ (d p n : Nat), p + d = 320 → n ≤ p → (w = 0 → n + cntN (fun p => !fre (sW S) p) d p = cntN (fun p => !fre (sW S) p) 320 0) → (¬ w = 0 → n = 0) → GoA 209 4 [some (.inr (3, 0, 0)), some (.inl (1, w)), some (.inl (1, (n : Int))), some (.inl (1, (p : Int)))] [] I (rZ K) := by
    intro d
    induction d with
    | zero =>
      intro p n hp hn h0 hz
      refine b_r_count_4 iw (inRn (by omega)) (inRn (by omega)) ⟨fun _ => go39 n (by omega) (fun c => ?_) hz, fun z => absurd (by omega) z⟩
      have e : n = _ := h0 c
      rw [if_pos c, ← e] at hK
      exact hK
    | succ d ih =>
      intro p n hp hn h0 hz
      obtain ⟨_, cu, wv, _, _⟩ := hS.1 p (by omega)
      refine b_r_count_4 iw (inRn (by omega)) (inRn (by omega)) ⟨fun z => absurd z (by omega), fun _ => ⟨fun w0 => ⟨by omega, ?_⟩, fun w0 => go39 n (by omega) (fun c => absurd c w0) hz⟩⟩
      have h0 : n + ((if (!fre (sW S) p) = true then 1 else 0) + cntN (fun p => !fre (sW S) p) d (p + 1)) = cntN (fun p => !fre (sW S) p) 320 0 := h0 w0
      have yes : fre (sW S) p = false → ∀ v2 v3 : Int, v2 = wr ((n : Int) + 1) → v3 = wr ((p : Int) + 1) → GoA 209 4 [some (.inr (3, 0, 0)), some (.inl (1, w)), some (.inl (1, v2)), some (.inl (1, v3))] [] I (rZ K) := fun hf v2 v3 e2 e3 => by
        rw [wrn (p + 1) (by omega) (by omega)] at e3
        rw [wrn (n + 1) (by omega) (by omega)] at e2
        subst e2; subst e3
        rw [hf] at h0
        simp only [Bool.not_false, if_true] at h0
        exact ih (p + 1) (n + 1) (by omega) (by omega) (fun _ => by omega) (fun c => absurd w0 c)
      rw [Int.toNat_natCast, wv]
      refine ⟨fun y => ⟨by omega, fun y2 v2 e2 _ v3 e3 _ => ?_, fun y2 v2 e2 _ v3 e3 _ => yes ?_ v2 v3 e2 e3⟩, fun y v2 e2 _ v3 e3 _ => yes ?_ v2 v3 e2 e3⟩
      · have cn : imR I 214 p = none := imG_none y2
        rw [cn] at cu
        have hf : fre (sW S) p = true := by unfold fre; rw [decide_eq_true y, ← cu]; rfl
        rw [wrn (p + 1) (by omega) (by omega)] at e3
        subst e2; subst e3
        rw [hf] at h0
        simp only [Bool.not_true, Bool.false_eq_true, if_false, Nat.zero_add] at h0
        exact ih (p + 1) n (by omega) (by omega) (fun _ => h0) hz
      · obtain ⟨x, hx⟩ : ∃ x, imR I 214 p = some x := imG_ex y2
        rw [hx] at cu
        unfold fre
        rw [← cu]
        simp
      · unfold fre
        rw [decide_eq_false y]
        rfl
  exact callZ_of rfl (b_r_count iw (l4 320 0 0 (by omega) (by omega) (fun _ => by omega) (fun _ => rfl)))
set_option maxHeartbeats 2000000 in
theorem c_entriesOf {I : Mm} {K : Int → Mm → Prop} {w : Rw} {i fa : Nat} {k : Ky} (hi : i < 6) (hk : kyOK k) (hC : kyR I i k) (hw : RowR I w) (h : K ((due k w 320 0 : Nat) : Int) I) : CallZ 210 [.inr (3, 0, 0), .inl (fa, (i : Int))] I K := by
  have tot := due_le k w 320 0
  have lp : ∀ (d p n : Nat) (m4 : Option AV), okO m4 → p + d = 320 → n + due k w d p = due k w 320 0 → GoA 210 4 [some (.inr (3, 0, 0)), some (.inl (1, (i : Int))), some (.inl (1, (n : Int))), some (.inl (1, (p : Int))), m4] [] I (rZ K) := by
    intro d
    induction d with
    | zero =>
      intro p n m4 o4 hp hn
      have hn : n = due k w 320 0 := hn
      refine b_r_entriesOf_4 (inRn (by omega)) (inRn (by omega)) (inRn (by omega)) o4 ⟨fun _ => ?_, fun z => absurd (by omega) z⟩
      rw [hn]; exact h
    | succ d ih =>
      intro p n m4 o4 hp hn
      have hn : n + ((enA k w p).length + (enB k w p).length + due k w d (p + 1)) = due k w 320 0 := hn
      obtain ⟨cm, cu, _, _, _⟩ := hw p (by omega)
      have o2 : ∀ x : Int, bl x → okO (some (.inl (2, x))) := fun x hx => okO_s (show ¬ (2 : Nat) = 0 → inR x from fun _ => by rcases hx with e | e <;> rw [e] <;> exact ⟨by omega, by omega⟩)
      have nx : ∀ (a b : Nat) (x y z v2 v3 : Int), x = (a : Int) → y = (b : Int) → bl z → (enA k w p).length = a → (enB k w p).length = b → v2 = wr ((n : Int) + x + y) → v3 = wr ((p : Int) + 1) → GoA 210 4 [some (.inr (3, 0, 0)), some (.inl (1, (i : Int))), some (.inl (1, v2)), some (.inl (1, v3)), some (.inl (2, z))] [] I (rZ K) := fun a b x y z v2 v3 ex ey bz ea eb e2 e3 => by
        rw [wrn (p + 1) (by omega) (by omega)] at e3
        rw [ex, ey, wrn (n + a + b) (by omega) (by omega)] at e2
        subst e2; subst e3
        exact ih (p + 1) (n + a + b) _ (o2 z bz) (by omega) (by omega)
      have i4 : ((4 * p : Nat) : Int) = 4 * (p : Int) := by omega
      refine b_r_entriesOf_4 (inRn (by omega)) (inRn (by omega)) (inRn (by omega)) o4 ⟨fun z => absurd z (by omega), fun _ => ⟨by omega, ?_⟩⟩
      simp only [Int.toNat_natCast]
      refine ⟨fun y => ⟨by omega, fun _ => ⟨by omega, fun y2 v2 e2 _ v3 e3 _ => ?_, fun y2 v2 e2 _ v3 e3 _ => ?_⟩, fun z => absurd y z⟩, fun y => ⟨by omega, fun y2 => ⟨by omega, fun z => absurd z y, fun _ => ⟨by omega, fun _ v2 e2 _ v3 e3 _ => ?_, fun z => absurd y2 z⟩⟩, fun y2 => ?_⟩⟩
      · have c1 : imR I 213 p = none := imG_none y
        have c2 : imR I 214 p = none := imG_none y2
        rw [c1] at cm; rw [c2] at cu
        exact nx 0 0 0 0 0 v2 v3 rfl rfl (Or.inl rfl) (by unfold enA; rw [← cm]; rfl) (by unfold enB; rw [← cu]; rfl) e2 e3
      · have c1 : imR I 213 p = none := imG_none y
        obtain ⟨x2, c2⟩ : ∃ x, imR I 214 p = some x := imG_ex y2
        rw [c1] at cm; rw [c2] at cu
        exact nx 0 1 0 1 0 v2 v3 rfl rfl (Or.inl rfl) (by unfold enA; rw [← cm]; rfl) (by unfold enB; rw [← cu, ← cm]; rfl) e2 e3
      · obtain ⟨x1, c1⟩ : ∃ x, imR I 213 p = some x := imG_ex y
        have c2 : imR I 214 p = none := imG_none y2
        rw [c1] at cm; rw [c2] at cu
        exact nx 1 0 1 0 0 v2 v3 rfl rfl (Or.inl rfl) (by unfold enA; rw [← cm]; rfl) (by unfold enB; rw [← cu]; rfl) e2 e3
      · obtain ⟨x1, c1⟩ : ∃ x, imR I 213 p = some x := imG_ex y
        obtain ⟨x2, c2⟩ : ∃ x, imR I 214 p = some x := imG_ex y2
        have ea : (enA k w p).length = 1 := by unfold enA; rw [← cm, c1]; rfl
        have eb : ∀ s : Bool, sk k (some x2) (some x1) = s → (enB k w p).length = if s = true then 0 else 1 := fun s hs => by
          unfold enB
          rw [← cu, ← cm, c1, c2]
          simp only [hs]
          cases s <;> rfl
        refine callZ_fl (as' := [.inr (3, 0, 0), .inl (1, (i : Int)), .inr (7, 213, 0), .inl (1, ((4 * p : Nat) : Int)), .inr (7, 214, 0), .inl (1, ((4 * p : Nat) : Int))]) rfl ?_
        refine c_same_77 (Or.inl rfl) (Or.inr rfl) hi hk hC (by omega) (by omega) (fun f hf => imG_fv c1 hf) (fun f hf => imG_fv c2 hf) ?_
        rw [sk_sym]
        cases s1 : sk k (some x2) (some x1) with
        | false =>
          refine ⟨fun _ => ⟨by omega, fun z => absurd z y, fun _ => ⟨by omega, fun z => absurd z y2, fun _ v2 e2 _ v3 e3 _ => ?_⟩⟩, fun z => absurd rfl z⟩
          exact nx 1 1 1 1 0 v2 v3 rfl rfl (Or.inl rfl) ea (eb false s1) e2 e3
        | true =>
          refine ⟨fun z => absurd z (by decide), fun _ => ⟨by omega, fun z => absurd z y, fun _ => ⟨by omega, fun z => absurd z y2, fun _ v2 e2 _ v3 e3 _ => ?_⟩⟩⟩
          exact nx 1 0 1 0 1 v2 v3 rfl rfl (Or.inr rfl) ea (eb true s1) e2 e3
  refine callZ_fl (as' := [.inr (3, 0, 0), .inl (1, (i : Int))]) rfl ?_
  exact callZ_of rfl (b_r_entriesOf (inRn (by omega)) (lp 320 0 0 none okO_n (by omega) (by omega)))
set_option maxHeartbeats 2000000 in
theorem c_raudit {I : Mm} {K : Int → Mm → Prop} {S : St} (hS : RSR I S) (hO : SOK S) (hK : ∀ J : Mm, LFr I J → RSR J S → K (audL S 6 0) J) : CallZ 211 [.inr (3, 0, 0)] I K := by
  have loop : ∀ (d i : Nat) (ft : Int) (J : Mm) (m3 m4 : Option AV), okO m3 → okO m4 → i + d = 6 → 0 ≤ ft → ft ≤ 2 * i → ft + audL S d i = audL S 6 0 → LFr I J → RSR J S → GoA 211 4 [some (.inr (3, 0, 0)), some (.inl (1, ft)), some (.inl (1, (i : Int))), m3, m4] [] J (rZ K) := by
    intro d
    induction d with
    | zero =>
      intro i ft J m3 m4 o3 o4 hi h0 h1 hs hF hJ
      have hs : ft + 0 = audL S 6 0 := hs
      rw [Int.add_zero] at hs
      refine b_r_audit_4 ⟨by omega, by omega⟩ (inRn (by omega)) o3 o4 ⟨fun _ => ?_, fun z => absurd (by omega) z⟩
      rw [hs]
      exact hK J hF hJ
    | succ d ih =>
      intro i ft J m3 m4 o3 o4 hi h0 h1 hs hF hJ
      have i6 : i < 6 := by omega
      have hs : ft + ((if rdy (sX S i) then aud (sX S i) (sW S) else 0) + audL S d (i + 1)) = audL S 6 0 := hs
      have hx := hJ.2.2.1.2 i i6
      have no : rdy (sX S i) = false → ∀ v, v = wr ((i : Int) + 1) → inR v → GoA 211 4 [some (.inr (3, 0, 0)), some (.inl (1, ft)), some (.inl (1, v)), m3, m4] [] J (rZ K) := fun hr v ev _ => by
        rw [wrn (i + 1) (by omega) (by omega)] at ev
        subst ev
        rw [hr] at hs
        simp only [Bool.false_eq_true, if_false, Int.zero_add] at hs
        exact ih (i + 1) ft J m3 m4 o3 o4 (by omega) h0 (by omega) hs hF hJ
      refine b_r_audit_4 ⟨by omega, by omega⟩ (inRn (by omega)) o3 o4 ⟨fun z => absurd z (by omega), fun _ => ⟨fun z => absurd z (by omega), fun _ => ⟨fun z => absurd z (by omega), fun _ => ⟨by omega, ?_⟩⟩⟩⟩
      rw [Int.toNat_natCast, hx.1]
      refine ⟨fun z => no (by unfold rdy; exact decide_eq_false (fun c => c.1 z)), fun hU => ⟨by omega, ?_⟩⟩
      rw [(hx.2 hU).2.2.2.1.1]
      refine ⟨fun z4 => ?_, fun z4 => no (by unfold rdy; exact decide_eq_false (fun c => z4 c.2))⟩
      have hr : rdy (sX S i) = true := by unfold rdy; exact decide_eq_true ⟨hU, z4⟩
      rw [hr] at hs
      simp only [if_true] at hs
      obtain ⟨u1, k1, g1, l1, p1⟩ := sok_3 hO i i6 hU
      obtain ⟨b1, b2, b3, b4, b5, b6, b7, b8⟩ := hx.2 hU
      refine c_goThrough i6 b6 g1 (by omega) ?_
      intro J f1 f2 f3 f4
      rename_i J0
      have hg := rsr_g f1 f2 hJ
      have hF' := lfr_tr hF hg.1
      have hJ' := hg.2
      obtain ⟨c1, c2, _⟩ := (hJ'.2.2.1.2 i i6).2 hU
      have ai := aud_in (sX S i) (sW S)
      have fin : ∀ (v3 : Int) (p : Nat), p ≤ 320 → bl v3 → (v3 = 0 → ¬ (¬ xQ (sX S i) = 0 ∧ ¬ clAny (xK (sX S i)) (sW S) = -1)) → (v3 = 1 → ¬ xQ (sX S i) = 0 ∧ ¬ clAny (xK (sX S i)) (sW S) = -1) → CallZ 210 [.inr (3, 0, 0), .inl (1, (i : Int))] J (fun x1 I1 => (rd J 212 45 = x1 → (v3 = 0 → ∀ v1_5, v1_5 = wr ((ft + 0) + 0) → inR v1_5 → ∀ v2_6, v2_6 = wr ((i : Int) + 1) → inR v2_6 → GoA 211 4 [some (.inr (3, 0, 0)), some (.inl (1, v1_5)), some (.inl (1, v2_6)), some (.inl (1, v3)), some (.inl (1, (p : Int)))] [] I1 (rZ K)) ∧ (¬ v3 = 0 → ∀ v1_7, v1_7 = wr ((ft + 0) + 1) → inR v1_7 → ∀ v2_8, v2_8 = wr ((i : Int) + 1) → inR v2_8 → GoA 211 4 [some (.inr (3, 0, 0)), some (.inl (1, v1_7)), some (.inl (1, v2_8)), some (.inl (1, v3)), some (.inl (1, (p : Int)))] [] I1 (rZ K))) ∧ (¬ rd J 212 45 = x1 → (v3 = 0 → ∀ v1_1, v1_1 = wr ((ft + 1) + 0) → inR v1_1 → ∀ v2_2, v2_2 = wr ((i : Int) + 1) → inR v2_2 → GoA 211 4 [some (.inr (3, 0, 0)), some (.inl (1, v1_1)), some (.inl (1, v2_2)), some (.inl (1, v3)), some (.inl (1, (p : Int)))] [] I1 (rZ K)) ∧ (¬ v3 = 0 → ∀ v1_3, v1_3 = wr ((ft + 1) + 1) → inR v1_3 → ∀ v2_4, v2_4 = wr ((i : Int) + 1) → inR v2_4 → GoA 211 4 [some (.inr (3, 0, 0)), some (.inl (1, v1_3)), some (.inl (1, v2_4)), some (.inl (1, v3)), some (.inl (1, (p : Int)))] [] I1 (rZ K)))) := by
        intro v3 p hp bv h30 h31
        refine c_entriesOf i6 k1 c2 hJ'.1 ?_
        have iv : inR v3 := by rcases bv with e | e <;> rw [e] <;> exact ⟨by omega, by omega⟩
        have nx : ∀ (x y v1 v2 : Int), x + y = aud (sX S i) (sW S) → v1 = wr (ft + x + y) → v2 = wr ((i : Int) + 1) → GoA 211 4 [some (.inr (3, 0, 0)), some (.inl (1, v1)), some (.inl (1, v2)), some (.inl (1, v3)), some (.inl (1, (p : Int)))] [] J (rZ K) := fun x y v1 v2 hxy e1 e2 => by
          rw [wrn (i + 1) (by omega) (by omega)] at e2
          rw [wrx (by omega) (by omega)] at e1
          subst e1; subst e2
          exact ih (i + 1) _ J _ _ (okO_s (okF_1 iv 1)) (okO_s (okF_1 (inRn (by omega)) 1)) (by omega) (by omega) (by omega) (by omega) hF' hJ'
        rw [f3]
        unfold aud at nx
        refine ⟨fun y => ⟨fun z v1 e1 _ v2 e2 _ => nx 0 0 v1 v2 ?_ e1 e2, fun z v1 e1 _ v2 e2 _ => nx 0 1 v1 v2 ?_ e1 e2⟩, fun y => ⟨fun z v1 e1 _ v2 e2 _ => nx 1 0 v1 v2 ?_ e1 e2, fun z v1 e1 _ v2 e2 _ => nx 1 1 v1 v2 ?_ e1 e2⟩⟩
        · rw [if_pos (by omega), if_neg (h30 z)]
        · rw [if_pos (by omega), if_pos (h31 (by rcases bv with e | e; exact absurd e z; exact e))]
        · rw [if_neg (by omega), if_neg (h30 z)]
        · rw [if_neg (by omega), if_pos (h31 (by rcases bv with e | e; exact absurd e z; exact e))]
      have lq : ∀ (d' p : Nat) (v3 : Int), p + d' = 320 → bl v3 → (v3 = 0 → ¬ xQ (sX S i) = 0 → ff (fun p => decide (clOf (xK (sX S i)) (sW S) p ≠ -1)) d' p = clAny (xK (sX S i)) (sW S)) → (v3 = 1 → ¬ xQ (sX S i) = 0 ∧ ¬ clAny (xK (sX S i)) (sW S) = -1) → GoA 211 28 [some (.inr (3, 0, 0)), some (.inl (1, ft)), some (.inl (1, (i : Int))), some (.inl (1, v3)), some (.inl (1, (p : Int)))] [] J (rZ K) := by
        intro d'
        induction d' with
        | zero =>
          intro p v3 hp bv h30 h31
          have iv : inR v3 := by rcases bv with e | e <;> rw [e] <;> exact ⟨by omega, by omega⟩
          refine b_r_audit_28 ⟨by omega, by omega⟩ (inRn (by omega)) iv (inRn (by omega)) ⟨fun _ => fin v3 p (by omega) bv (fun z c => ?_) h31, fun z => absurd (by omega) z⟩
          have e : (-1 : Int) = _ := h30 z c.1
          exact c.2 e.symm
        | succ d' ihd =>
          intro p v3 hp bv h30 h31
          have iv : inR v3 := by rcases bv with e | e <;> rw [e] <;> exact ⟨by omega, by omega⟩
          refine b_r_audit_28 ⟨by omega, by omega⟩ (inRn (by omega)) iv (inRn (by omega)) ⟨fun z => absurd z (by omega), fun _ => ⟨by omega, ?_⟩⟩
          have c1' : rd J 227 ((i : Int)).toNat = xQ (sX S i) := by rw [Int.toNat_natCast]; exact c1
          rw [c1']
          refine ⟨fun z => fin v3 p (by omega) bv (fun _ c => c.1 z) h31, fun z => ⟨fun z3 => ?_, fun z3 => fin v3 p (by omega) bv (fun c => absurd c z3) h31⟩⟩
          have hf : (if decide (clOf (xK (sX S i)) (sW S) p ≠ -1) = true then (p : Int) else ff (fun p => decide (clOf (xK (sX S i)) (sW S) p ≠ -1)) d' (p + 1)) = clAny (xK (sX S i)) (sW S) := h30 z3 z
          refine c_rclashOf i6 k1 c2 (by omega) hJ'.1 ?_
          refine ⟨fun y v ev _ => ?_, fun y v ev _ => ?_⟩
          · rw [wrn (p + 1) (by omega) (by omega)] at ev
            subst ev
            rw [if_neg (by rw [decide_eq_true_eq]; exact fun h => h y)] at hf
            exact ihd (p + 1) 0 (by omega) (Or.inl rfl) (fun _ _ => hf) (fun c => absurd c (by decide))
          · rw [wrn (p + 1) (by omega) (by omega)] at ev
            subst ev
            rw [if_pos (decide_eq_true y)] at hf
            exact ihd (p + 1) 1 (by omega) (Or.inr rfl) (fun c => absurd c (by decide)) (fun _ => ⟨z, by rw [← hf]; omega⟩)
      exact lq 320 0 0 (by omega) (Or.inl rfl) (fun _ _ => rfl) (fun c => absurd c (by decide))
  exact callZ_of rfl (b_r_audit (loop 6 0 0 I none none okO_n okO_n (by omega) (by omega) (by omega) (by omega) (fun _ _ => rfl) hS))
