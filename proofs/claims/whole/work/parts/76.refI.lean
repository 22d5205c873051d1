/-! THE REFERENCE: index, drop, info, entry, where, answers, sees -/
theorem r_ix {I : Mm} {S : St} {i : Int} {P B : Prop} (hS : RSR I S) (hO : SOK S) (h0 : ¬ isI S i → P) (h1 : ∀ n : Nat, i = n → n < 6 → isI S i → xU (sX S n) = 1 → kyOK (xK (sX S n)) → good (xT (sX S n)) → (lsT (xT (sX S n))).length ≤ 646 → xP (sX S n) ≤ 40 → IxR I n (sX S n) → B) : (i < 0 → P) ∧ (¬ i < 0 → (5 < i → P) ∧ (¬ 5 < i → (0 ≤ i ∧ i < 6) ∧ ((rd I 224 i.toNat = 0 → P) ∧ (¬ rd I 224 i.toNat = 0 → B)))) := by
  refine ⟨fun z => h0 (fun c => by have := c.1; omega), fun z => ⟨fun z2 => h0 (fun c => by have := c.2.1; omega), fun z2 => ⟨by omega, ?_⟩⟩⟩
  obtain ⟨n, e⟩ : ∃ n : Nat, i = n := ⟨i.toNat, by omega⟩
  subst e
  have n6 : n < 6 := by omega
  have hx := hS.2.2.1.2 n n6
  rw [Int.toNat_natCast, hx.1]
  refine ⟨fun z3 => h0 (fun c => c.2.2 (by rw [Int.toNat_natCast]; exact z3)), fun z3 => ?_⟩
  obtain ⟨a1, a2, a3, a4, a5⟩ := sok_3 hO n n6 z3
  exact h1 n rfl n6 ⟨by omega, by omega, by rw [Int.toNat_natCast]; exact z3⟩ a1 a2 a3 a4 a5 hx
theorem rsr_x {I J : Mm} {S : St} {i : Nat} {x : Ix} (hO : SOK S) (hF : XFrR I J i) (hx : IxR J i x) (hc : cnOK J) (hS : RSR I S) : RSR J (sSetX S i x) ∧ LFr I J := by
  obtain ⟨r1, r2, ⟨r0, r3⟩, r4, r5⟩ := hS
  refine ⟨⟨rowR_cg (fun c h1 h2 => hF.1 c (by omega)) r1, fun t ht => txR_cg (fun c h1 h2 => hF.1 c (by omega)) (r2 t ht), ⟨hc, fun j hj => ?_⟩, bdR_cg (hF.1 _ (by omega)) (hF.1 _ (by omega)) r4, qsR_cg (hF.2.1 _ (by omega) (by omega) (by omega)) (hF.2.1 _ (by omega) (by omega) (by omega)) (hF.2.1 _ (by omega) (by omega) (by omega)) (hF.1 _ (by omega)) r5⟩, fun c hc => hF.1 c (by omega)⟩
  show IxR J j (upN (sX S) i x j)
  by_cases c : j = i
  · subst c; rw [upN_s]; exact hx
  · rw [upN_o c]; exact ixR_fr hj c hF (fun z => (sok_3 hO j hj z).2.1.2.1) (r3 j hj)
theorem okO_2 : okO (some (.inl (2, 1))) := okO_s (show ¬ (2 : Nat) = 0 → inR 1 from fun _ => ⟨by omega, by omega⟩)
set_option maxHeartbeats 2000000 in
theorem ri_go {I I1 I2 : Mm} {K : Int → Mm → Prop} {S : St} {n : Nat} {a b c un cnt : Int} (n6 : n < 6) (ia : inR a) (ib : inR b) (ic : inR c) (hun : un = 0 ∨ un = 1) (hk : isK a b c) (hcnt : cnt = ((keyOf a b c).1 : Int)) (hS : RSR I S) (hO : SOK S) (e1 : I1 = wt I 224 n 1) (e2 : I2 = wt I1 227 n un)
    (hK : ∀ J : Mm, LFr I J → RSR J (sSetX S n (xStart un (keyOf a b c) (a, b, c))) → K n J) : (0 ≤ (n : Int) ∧ (n : Int) < 6) ∧ (∀ I70, I70 = wt I2 225 (n : Int).toNat cnt → (0 ≤ (wr (3 * (n : Int))) ∧ (wr (3 * (n : Int))) < 18) ∧ (∀ I71, I71 = wt I70 226 (wr (3 * (n : Int))).toNat a → (0 ≤ (wr ((3 * (n : Int)) + 1)) ∧ (wr ((3 * (n : Int)) + 1)) < 18) ∧ (∀ I72, I72 = wt I71 226 (wr ((3 * (n : Int)) + 1)).toNat b → (0 ≤ (wr ((3 * (n : Int)) + 2)) ∧ (wr ((3 * (n : Int)) + 2)) < 18) ∧ (∀ I73, I73 = wt I72 226 (wr ((3 * (n : Int)) + 2)).toNat c → (0 ≤ (n : Int) ∧ (n : Int) < 6) ∧ (∀ I74, I74 = wt I73 228 (n : Int).toNat 1 → (0 ≤ (n : Int) ∧ (n : Int) < 6) ∧ (∀ I75, I75 = wt I74 229 (n : Int).toNat 0 → (0 ≤ (n : Int) ∧ (n : Int) < 6) ∧ (∀ I76, I76 = wt I75 230 (n : Int).toNat 0 → (0 ≤ (n : Int) ∧ (n : Int) < 6) ∧ (∀ I77, I77 = wt I76 231 (n : Int).toNat (-1) → (0 ≤ (n : Int) ∧ (n : Int) < 6) ∧ (∀ I78, I78 = wt I77 232 (n : Int).toNat (-1) → (0 ≤ (n : Int) ∧ (n : Int) < 6) ∧ (∀ I79, I79 = wt I78 233 (n : Int).toNat 0 → (0 ≤ (n : Int) ∧ (n : Int) < 6) ∧ (∀ I80, I80 = wt I79 237 (n : Int).toNat 0 → (0 ≤ (n : Int) ∧ (n : Int) < 6) ∧ (∀ I81, I81 = wt I80 238 (n : Int).toNat 0 → CallV 146 [.inr (3, 0, 0), .inl (1, (n : Int))] I81 (fun I82 => (rZ K) (some (.inl (1, (n : Int)))) I82))))))))))))) := by
  have iu : inR un := by rcases hun with h | h <;> rw [h] <;> exact ⟨by omega, by omega⟩
  have k13 : 1 ≤ (keyOf a b c).1 ∧ (keyOf a b c).1 ≤ 3 := by unfold keyOf; dsimp only; split; omega; split <;> omega
  have w0 : wr (3 * (n : Int)) = ((3 * n : Nat) : Int) := wrn _ (by omega) (by omega)
  have w1 : wr (3 * (n : Int) + 1) = ((3 * n + 1 : Nat) : Int) := wrn _ (by omega) (by omega)
  have w2 : wr (3 * (n : Int) + 2) = ((3 * n + 2 : Nat) : Int) := wrn _ (by omega) (by omega)
  rw [w0, w1, w2]
  simp only [Int.toNat_natCast]
  have hc := hS.2.2.1.1
  refine ⟨by omega, fun I3 e3 => ⟨by omega, fun I4 e4 => ⟨by omega, fun I5 e5 => ⟨by omega, fun I6 e6 => ⟨by omega, fun I7 e7 => ⟨by omega, fun I8 e8 => ⟨by omega, fun I9 e9 => ⟨by omega, fun I10 e10 => ⟨by omega, fun I11 e11 => ⟨by omega, fun I12 e12 => ⟨by omega, fun I13 e13 => ⟨by omega, fun I14 e14 => ?_⟩⟩⟩⟩⟩⟩⟩⟩⟩⟩⟩⟩
  have x1 : XFrR I I1 n := by rw [e1]; exact xFrR_wt (by omega) (by omega) (ow_d rfl (by omega) (by omega) (by omega) (by omega) (by omega) (by omega))
  have x2 : XFrR I1 I2 n := by rw [e2]; exact xFrR_wt (by omega) (by omega) (ow_d rfl (by omega) (by omega) (by omega) (by omega) (by omega) (by omega))
  have x3 : XFrR I2 I3 n := by rw [e3]; exact xFrR_wt (by omega) (by omega) (ow_d rfl (by omega) (by omega) (by omega) (by omega) (by omega) (by omega))
  have x4 : XFrR I3 I4 n := by rw [e4]; exact xFrR_wt (by omega) (by omega) (ow_226 (by omega) (by omega))
  have x5 : XFrR I4 I5 n := by rw [e5]; exact xFrR_wt (by omega) (by omega) (ow_226 (by omega) (by omega))
  have x6 : XFrR I5 I6 n := by rw [e6]; exact xFrR_wt (by omega) (by omega) (ow_226 (by omega) (by omega))
  have x7 : XFrR I6 I7 n := by rw [e7]; exact xFrR_wt (by omega) (by omega) (ow_d rfl (by omega) (by omega) (by omega) (by omega) (by omega) (by omega))
  have x8 : XFrR I7 I8 n := by rw [e8]; exact xFrR_wt (by omega) (by omega) (ow_d rfl (by omega) (by omega) (by omega) (by omega) (by omega) (by omega))
  have x9 : XFrR I8 I9 n := by rw [e9]; exact xFrR_wt (by omega) (by omega) (ow_d rfl (by omega) (by omega) (by omega) (by omega) (by omega) (by omega))
  have x10 : XFrR I9 I10 n := by rw [e10]; exact xFrR_wt (by omega) (by omega) (ow_d rfl (by omega) (by omega) (by omega) (by omega) (by omega) (by omega))
  have x11 : XFrR I10 I11 n := by rw [e11]; exact xFrR_wt (by omega) (by omega) (ow_d rfl (by omega) (by omega) (by omega) (by omega) (by omega) (by omega))
  have x12 : XFrR I11 I12 n := by rw [e12]; exact xFrR_wt (by omega) (by omega) (ow_d rfl (by omega) (by omega) (by omega) (by omega) (by omega) (by omega))
  have x13 : XFrR I12 I13 n := by rw [e13]; exact xFrR_wt (by omega) (by omega) (ow_d rfl (by omega) (by omega) (by omega) (by omega) (by omega) (by omega))
  have x14 : XFrR I13 I14 n := by rw [e14]; exact xFrR_wt (by omega) (by omega) (ow_d rfl (by omega) (by omega) (by omega) (by omega) (by omega) (by omega))
  have c14 : cnOK I14 := fun m hm => by rw [e14, rd_wt_a _ _ _ _ (by omega), e13, rd_wt_a _ _ _ _ (by omega), e12, rd_wt_a _ _ _ _ (by omega), e11, rd_wt_a _ _ _ _ (by omega), e10, rd_wt_a _ _ _ _ (by omega), e9, rd_wt_a _ _ _ _ (by omega), e8, rd_wt_a _ _ _ _ (by omega), e7, rd_wt_a _ _ _ _ (by omega), e6, rd_wt_a _ _ _ _ (by omega), e5, rd_wt_a _ _ _ _ (by omega), e4, rd_wt_a _ _ _ _ (by omega), e3, rd_wt_a _ _ _ _ (by omega), e2, rd_wt_a _ _ _ _ (by omega), e1, rd_wt_a _ _ _ _ (by omega)]; exact hc m hm
  refine c_emptyTree n6 c14 ?_
  intro J f1 f2 hT
  have cJ := treeR_c hT
  have j4 : ∀ c k, c ≠ 241 → c ≠ 242 → c ≠ 243 → c ≠ 246 → rd J c k = rd I14 c k := fun c k h5 h6 h7 h8 => rd_of (f1 c h5 h6 h7 h8) k
  have v6a : rd J 226 (3 * n) = a := by rw [j4 _ _ (by omega) (by omega) (by omega) (by omega), e14, rd_wt_a _ _ _ _ (by omega), e13, rd_wt_a _ _ _ _ (by omega), e12, rd_wt_a _ _ _ _ (by omega), e11, rd_wt_a _ _ _ _ (by omega), e10, rd_wt_a _ _ _ _ (by omega), e9, rd_wt_a _ _ _ _ (by omega), e8, rd_wt_a _ _ _ _ (by omega), e7, rd_wt_a _ _ _ _ (by omega), e6, rd_wt_k _ _ _ _ (by omega), e5, rd_wt_k _ _ _ _ (by omega), e4, rd_wt_s _ _ _ ia]
  have v6b : rd J 226 (3 * n + 1) = b := by rw [j4 _ _ (by omega) (by omega) (by omega) (by omega), e14, rd_wt_a _ _ _ _ (by omega), e13, rd_wt_a _ _ _ _ (by omega), e12, rd_wt_a _ _ _ _ (by omega), e11, rd_wt_a _ _ _ _ (by omega), e10, rd_wt_a _ _ _ _ (by omega), e9, rd_wt_a _ _ _ _ (by omega), e8, rd_wt_a _ _ _ _ (by omega), e7, rd_wt_a _ _ _ _ (by omega), e6, rd_wt_k _ _ _ _ (by omega), e5, rd_wt_s _ _ _ ib]
  have v6c : rd J 226 (3 * n + 2) = c := by rw [j4 _ _ (by omega) (by omega) (by omega) (by omega), e14, rd_wt_a _ _ _ _ (by omega), e13, rd_wt_a _ _ _ _ (by omega), e12, rd_wt_a _ _ _ _ (by omega), e11, rd_wt_a _ _ _ _ (by omega), e10, rd_wt_a _ _ _ _ (by omega), e9, rd_wt_a _ _ _ _ (by omega), e8, rd_wt_a _ _ _ _ (by omega), e7, rd_wt_a _ _ _ _ (by omega), e6, rd_wt_s _ _ _ ic]
  have := rsr_x (x := xStart un (keyOf a b c) (a, b, c)) hO (xFrR_tr x1 (xFrR_tr x2 (xFrR_tr x3 (xFrR_tr x4 (xFrR_tr x5 (xFrR_tr x6 (xFrR_tr x7 (xFrR_tr x8 (xFrR_tr x9 (xFrR_tr x10 (xFrR_tr x11 (xFrR_tr x12 (xFrR_tr x13 (xFrR_tr x14 (xFrR_fr n6 f2 cJ))))))))))))))) ⟨(by rw [j4 _ _ (by omega) (by omega) (by omega) (by omega), e14, rd_wt_a _ _ _ _ (by omega), e13, rd_wt_a _ _ _ _ (by omega), e12, rd_wt_a _ _ _ _ (by omega), e11, rd_wt_a _ _ _ _ (by omega), e10, rd_wt_a _ _ _ _ (by omega), e9, rd_wt_a _ _ _ _ (by omega), e8, rd_wt_a _ _ _ _ (by omega), e7, rd_wt_a _ _ _ _ (by omega), e6, rd_wt_a _ _ _ _ (by omega), e5, rd_wt_a _ _ _ _ (by omega), e4, rd_wt_a _ _ _ _ (by omega), e3, rd_wt_a _ _ _ _ (by omega), e2, rd_wt_a _ _ _ _ (by omega), e1, rd_wt_s _ _ _ ⟨by omega, by omega⟩]; rfl), fun _ => ⟨(by rw [j4 _ _ (by omega) (by omega) (by omega) (by omega), e14, rd_wt_a _ _ _ _ (by omega), e13, rd_wt_a _ _ _ _ (by omega), e12, rd_wt_a _ _ _ _ (by omega), e11, rd_wt_a _ _ _ _ (by omega), e10, rd_wt_a _ _ _ _ (by omega), e9, rd_wt_a _ _ _ _ (by omega), e8, rd_wt_a _ _ _ _ (by omega), e7, rd_wt_a _ _ _ _ (by omega), e6, rd_wt_a _ _ _ _ (by omega), e5, rd_wt_a _ _ _ _ (by omega), e4, rd_wt_a _ _ _ _ (by omega), e3, rd_wt_a _ _ _ _ (by omega), e2, rd_wt_s _ _ _ iu]; rfl), ⟨(by rw [j4 _ _ (by omega) (by omega) (by omega) (by omega), e14, rd_wt_a _ _ _ _ (by omega), e13, rd_wt_a _ _ _ _ (by omega), e12, rd_wt_a _ _ _ _ (by omega), e11, rd_wt_a _ _ _ _ (by omega), e10, rd_wt_a _ _ _ _ (by omega), e9, rd_wt_a _ _ _ _ (by omega), e8, rd_wt_a _ _ _ _ (by omega), e7, rd_wt_a _ _ _ _ (by omega), e6, rd_wt_a _ _ _ _ (by omega), e5, rd_wt_a _ _ _ _ (by omega), e4, rd_wt_a _ _ _ _ (by omega), e3, rd_wt_s _ _ _ ⟨by omega, by omega⟩]; exact hcnt), fun j hj => ?_⟩, ⟨v6a, v6b, v6c⟩, ⟨(by rw [j4 _ _ (by omega) (by omega) (by omega) (by omega), e14, rd_wt_a _ _ _ _ (by omega), e13, rd_wt_a _ _ _ _ (by omega), e12, rd_wt_a _ _ _ _ (by omega), e11, rd_wt_a _ _ _ _ (by omega), e10, rd_wt_a _ _ _ _ (by omega), e9, rd_wt_a _ _ _ _ (by omega), e8, rd_wt_a _ _ _ _ (by omega), e7, rd_wt_s _ _ _ ⟨by omega, by omega⟩]; rfl), (by rw [j4 _ _ (by omega) (by omega) (by omega) (by omega), e14, rd_wt_a _ _ _ _ (by omega), e13, rd_wt_a _ _ _ _ (by omega), e12, rd_wt_a _ _ _ _ (by omega), e11, rd_wt_a _ _ _ _ (by omega), e10, rd_wt_a _ _ _ _ (by omega), e9, rd_wt_a _ _ _ _ (by omega), e8, rd_wt_s _ _ _ ⟨by omega, by omega⟩]; rfl)⟩, ⟨(by rw [j4 _ _ (by omega) (by omega) (by omega) (by omega), e14, rd_wt_a _ _ _ _ (by omega), e13, rd_wt_a _ _ _ _ (by omega), e12, rd_wt_a _ _ _ _ (by omega), e11, rd_wt_a _ _ _ _ (by omega), e10, rd_wt_a _ _ _ _ (by omega), e9, rd_wt_s _ _ _ ⟨by omega, by omega⟩]; rfl), (by rw [j4 _ _ (by omega) (by omega) (by omega) (by omega), e14, rd_wt_a _ _ _ _ (by omega), e13, rd_wt_a _ _ _ _ (by omega), e12, rd_wt_a _ _ _ _ (by omega), e11, rd_wt_a _ _ _ _ (by omega), e10, rd_wt_s _ _ _ ⟨by omega, by omega⟩]; rfl), (by rw [j4 _ _ (by omega) (by omega) (by omega) (by omega), e14, rd_wt_a _ _ _ _ (by omega), e13, rd_wt_a _ _ _ _ (by omega), e12, rd_wt_a _ _ _ _ (by omega), e11, rd_wt_s _ _ _ ⟨by omega, by omega⟩]; rfl)⟩, hT, ⟨(by rw [j4 _ _ (by omega) (by omega) (by omega) (by omega), e14, rd_wt_a _ _ _ _ (by omega), e13, rd_wt_a _ _ _ _ (by omega), e12, rd_wt_s _ _ _ ⟨by omega, by omega⟩]; rfl), by show ([] : List (Int × E)).length ≤ 300; simp, fun j c e hj => by simp [xStart, xL] at hj⟩, fun _ => ⟨0, fun _ => rfl, by show 0 + ([] : List E).length ≤ 640; simp, (by rw [j4 _ _ (by omega) (by omega) (by omega) (by omega), e14, rd_wt_a _ _ _ _ (by omega), e13, rd_wt_s _ _ _ ⟨by omega, by omega⟩]; rfl), (by rw [j4 _ _ (by omega) (by omega) (by omega) (by omega), e14, rd_wt_s _ _ _ ⟨by omega, by omega⟩]; rfl), fun j e hj => by simp [xStart, xG] at hj⟩⟩⟩ cJ hS
  · exact hK J this.2 this.1
  · have hj : j < (keyOf a b c).1 := hj
    show rd J 226 (3 * n + j) = (((keyOf a b c).2 j : Nat) : Int)
    have j3 : j = 0 ∨ j = 1 ∨ j = 2 := by omega
    have b0 : j = 1 ∨ j = 2 → ¬ b = -1 := fun h hb => by unfold keyOf at hj; rw [if_pos hb] at hj; dsimp only at hj; omega
    have c0 : j = 2 → ¬ c = -1 := fun h hb => by unfold keyOf at hj; rw [if_pos hb] at hj; dsimp only at hj; split at hj <;> omega
    rcases j3 with h | h | h
    · subst h; exact v6a.trans (by show a = ((a.toNat : Nat) : Int); omega)
    · subst h
      have := b0 (Or.inl rfl)
      exact v6b.trans (by show b = ((b.toNat : Nat) : Int); omega)
    · subst h
      have := b0 (Or.inr rfl)
      have := c0 rfl
      exact v6c.trans (by show c = ((c.toNat : Nat) : Int); omega)
set_option maxHeartbeats 2000000 in
theorem c_rindex {I : Mm} {K : Int → Mm → Prop} {S : St} {a b c un : Int} (ia : inR a) (ib : inR b) (ic : inR c) (hun : un = 0 ∨ un = 1) (hS : RSR I S) (hO : SOK S)
    (hK : ∀ J : Mm, LFr I J → RSR J (oIndex S a b c un).2 → K (oIndex S a b c un).1 J) : CallZ 183 [.inr (3, 0, 0), .inl (1, a), .inl (1, b), .inl (1, c), .inl (1, un)] I K := by
  have iu : inR un := by rcases hun with h | h <;> rw [h] <;> exact ⟨by omega, by omega⟩
  have loop : isK a b c → ∀ (d i : Nat), i + d = 6 → ff (fun i => decide (xU (sX S i) = 0)) d i = fxi S → GoA 183 85 [some (.inr (3, 0, 0)), some (.inl (1, a)), some (.inl (1, b)), some (.inl (1, c)), some (.inl (1, un)), some (.inl (2, 1)), some (.inl (1, (i : Int)))] [] I (rZ K) := by
    intro hk d
    unfold oIndex at hK
    rw [if_neg (fun c => c hk)] at hK
    induction d with
    | zero =>
      intro i hi hf
      have i6 : i = 6 := by omega
      refine b_r_index_85 ia ib ic iu okO_2 (inRn (by omega)) ⟨fun _ => ⟨fun _ => ?_, fun z => absurd (by omega) z⟩, fun z => absurd (by omega) z⟩
      have hf' : fxi S = -1 := hf.symm
      rw [if_pos hf'] at hK
      exact hK I (fun _ _ => rfl) hS
    | succ d ih =>
      intro i hi hf
      have hf : (if decide (xU (sX S i) = 0) = true then (i : Int) else ff (fun i => decide (xU (sX S i) = 0)) d (i + 1)) = fxi S := hf
      have hx := hS.2.2.1.2 i (by omega)
      refine b_r_index_85 ia ib ic iu okO_2 (inRn (by omega)) ⟨fun z => absurd z (by omega), fun _ => ⟨by omega, ?_⟩⟩
      have hx1 : rd I 224 ((i : Int).toNat) = xU (sX S i) := by rw [Int.toNat_natCast]; exact hx.1
      rw [hx1]
      refine ⟨fun z => ⟨fun z => absurd z (by omega), fun _ => ⟨by omega, fun I1 e1 => ⟨by omega, hun, fun I2 e2 => ?_⟩⟩⟩, fun z v ev _ => ?_⟩
      · rw [if_pos (decide_eq_true z)] at hf
        rw [← hf, if_neg (by omega), Int.toNat_natCast] at hK
        rw [Int.toNat_natCast] at e1 e2
        refine ⟨fun zb => ri_go (by omega) ia ib ic hun hk ?_ hS hO e1 e2 hK, fun zb => ⟨fun zc => ri_go (by omega) ia ib ic hun hk ?_ hS hO e1 e2 hK, fun zc => ri_go (by omega) ia ib ic hun hk ?_ hS hO e1 e2 hK⟩⟩
        · unfold keyOf; rw [if_pos zb]; rfl
        · unfold keyOf; rw [if_neg zb, if_pos zc]; rfl
        · unfold keyOf; rw [if_neg zb, if_neg zc]; rfl
      · rw [if_neg (by rw [decide_eq_true_eq]; exact z)] at hf
        rw [wrn (i + 1) (by omega) (by omega)] at ev
        subst ev
        exact ih (i + 1) (by omega) hf
  have bad : ¬ isK a b c → K (-102) I := fun hn => by
    unfold oIndex at hK
    rw [if_pos hn] at hK
    exact hK I (fun _ _ => rfl) hS
  exact callZ_of rfl (b_r_index ia ib ic iu ⟨fun _ => bad (by omega), fun _ => ⟨fun _ => bad (by omega), fun _ => ⟨fun _ => bad (by omega), fun _ => ⟨fun _ => bad (by omega), fun _ => ⟨fun _ => bad (by omega), fun _ => ⟨fun _ => bad (by omega), fun _ => ⟨fun _ => bad (by omega), fun _ => ⟨fun _ => bad (by omega), fun _ => ⟨fun _ => ⟨fun _ => loop (by omega) 6 0 (by omega) rfl, fun _ => bad (by omega)⟩, fun _ => ⟨fun _ => bad (by omega), fun _ => loop (by omega) 6 0 (by omega) rfl⟩⟩⟩⟩⟩⟩⟩⟩⟩⟩)
theorem c_rdrop {I : Mm} {K : Int → Mm → Prop} {S : St} {i : Int} (ii : inR i) (hS : RSR I S) (hO : SOK S)
    (hK : ∀ J : Mm, LFr I J → RSR J (oDrop S i).2 → K (oDrop S i).1 J) : CallZ 184 [.inr (3, 0, 0), .inl (1, i)] I K := by
  unfold oDrop at hK
  refine callZ_of rfl (b_r_drop ii (r_ix hS hO (fun hn => ?_) (fun n e n6 hI u2 k1 g1 l1 p1 hx => ⟨by omega, fun J e1 => ?_⟩)))
  · rw [if_pos hn] at hK; exact hK I (fun _ _ => rfl) hS
  · rw [if_neg (fun c => c hI)] at hK
    subst e
    rw [Int.toNat_natCast] at hK e1
    have F : XFrR I J n := by rw [e1]; exact xFrR_wt (by omega) (by omega) (ow_d rfl (by omega) (by omega) (by omega) (by omega) (by omega) (by omega))
    have := rsr_x (x := xOff (sX S n)) hO F ⟨by rw [e1, rd_wt_s _ _ _ ⟨by omega, by omega⟩]; rfl, fun z => absurd rfl z⟩ (cnOK_cg (by rw [e1, wt_a _ _ _ _ (by omega)]) hS.2.2.1.1) hS
    exact hK J this.2 this.1
/-- an index that is no more built has no log -/
def SLK (S : St) : Prop := ∀ i, i < 6 → xU (sX S i) = 1 → 4 ≤ xS (sX S i) → xL (sX S i) = []
theorem rsr_g {I J : Mm} {S : St} (h : ∀ c, c ≠ 212 → c ≠ 251 → c ≠ 252 → c ≠ 253 → c ≠ 254 → J c = I c) (h2 : ∀ k, k ≠ 42 → k ≠ 45 → rd J 212 k = rd I 212 k) (hS : RSR I S) : LFr I J ∧ RSR J S := ⟨fun c hc => h c (by omega) (by omega) (by omega) (by omega) (by omega), rsr_of (fun c _ _ => h c (by omega) (by omega) (by omega) (by omega) (by omega)) (h2 _ (by omega) (by omega)) (h2 _ (by omega) (by omega)) (h2 _ (by omega) (by omega)) hS⟩
set_option maxHeartbeats 1000000 in
theorem c_rinfo {I : Mm} {K : Int → Mm → Prop} {S : St} {i w : Int} (ii : inR i) (iw : inR w) (hS : RSR I S) (hO : SOK S) (hL : SLK S) (hK : ∀ J : Mm, LFr I J → RSR J S → K (oInfo S i w) J) : CallZ 191 [.inr (3, 0, 0), .inl (1, i), .inl (1, w)] I K := by
  unfold oInfo at hK
  refine callZ_of rfl (b_r_info ii iw (r_ix hS hO (fun hn => ?_) (fun n e n6 hI u2 k1 g1 l1 p1 hx => ?_)))
  · rw [if_pos hn] at hK; exact hK I (fun _ _ => rfl) hS
  · rw [if_neg (fun c => c hI)] at hK
    subst e
    simp only [Int.toNat_natCast] at hK ⊢
    obtain ⟨b1, b2, b3, b4, b5, b6, b7, b8⟩ := hx.2 (by omega)
    rw [b4.1, b1, b2.1, b4.2, b5.1, b5.2.1, b5.2.2, b7.1]
    refine ⟨fun z => ?_, fun z => ⟨by omega, ?_⟩, fun z => ⟨by omega, fun q => ?_, fun q => ?_⟩, fun z => ⟨by omega, ?_⟩, fun z => ?_, fun z => ?_, fun z => ?_, fun z => ?_, fun z => ?_, fun z => ?_, fun z => ⟨by omega, fun q => ?_, fun q => ⟨by omega, ?_⟩⟩, fun z => ⟨by omega, ?_⟩, fun z => ⟨by omega, ?_⟩, fun z => ⟨by omega, ?_⟩, fun z => ⟨by omega, ?_⟩, trivial⟩
    · rw [if_neg (by omega), if_neg (by omega), if_neg (by omega), if_neg (by omega), if_neg (by omega), if_neg (by omega), if_neg (by omega), if_neg (by omega), if_neg (by omega), if_neg (by omega), if_neg (by omega), if_neg (by omega), if_neg (by omega), if_neg (by omega)] at hK
      exact hK I (fun _ _ => rfl) hS
    all_goals subst z
    · exact hK I (fun _ _ => rfl) hS
    · rw [if_neg (by decide), if_pos rfl, if_pos q] at hK; exact hK I (fun _ _ => rfl) hS
    · rw [if_neg (by decide), if_pos rfl, if_neg q] at hK; exact hK I (fun _ _ => rfl) hS
    · exact hK I (fun _ _ => rfl) hS
    · have w3 : wr (3 * (n : Int) + 3 - 3) = ((3 * n : Nat) : Int) := wrn _ (by omega) (by omega)
      rw [w3, Int.toNat_natCast, b3.1]
      exact ⟨by omega, hK I (fun _ _ => rfl) hS⟩
    · have w3 : wr (3 * (n : Int) + 4 - 3) = ((3 * n + 1 : Nat) : Int) := wrn _ (by omega) (by omega)
      rw [w3, Int.toNat_natCast, b3.2.1]
      exact ⟨by omega, hK I (fun _ _ => rfl) hS⟩
    · have w3 : wr (3 * (n : Int) + 5 - 3) = ((3 * n + 2 : Nat) : Int) := wrn _ (by omega) (by omega)
      rw [w3, Int.toNat_natCast, b3.2.2]
      exact ⟨by omega, hK I (fun _ _ => rfl) hS⟩
    · refine c_goThrough n6 b6 g1 (by omega) ?_
      intro J f1 f2 f3 _
      have := rsr_g f1 f2 hS
      rw [f3]
      exact hK J this.1 this.2
    · exact c_heightOf n6 b6 g1 (by omega) (hK I (fun _ _ => rfl) hS)
    · exact c_nodesOf n6 b6 (hK I (fun _ _ => rfl) hS)
    · have := hL n n6 u2 q
      rw [this] at hK
      exact hK I (fun _ _ => rfl) hS
    · exact hK I (fun _ _ => rfl) hS
    · exact hK I (fun _ _ => rfl) hS
    · exact hK I (fun _ _ => rfl) hS
    · exact hK I (fun _ _ => rfl) hS
    · exact hK I (fun _ _ => rfl) hS
set_option maxHeartbeats 1000000 in
theorem c_rentry {I : Mm} {K : Int → Mm → Prop} {S : St} {i p w : Int} (ii : inR i) (ip : inR p) (iw : inR w) (hS : RSR I S) (hO : SOK S) (hK : ∀ J : Mm, LFr I J → RSR J S → K (oEnt S i p w) J) : CallZ 192 [.inr (3, 0, 0), .inl (1, i), .inl (1, p), .inl (1, w)] I K := by
  unfold oEnt at hK
  refine callZ_of rfl (b_r_entry ii ip iw (r_ix hS hO (fun hn => ?_) (fun n e n6 hI u2 k1 g1 l1 p1 hx => ?_)))
  · rw [if_pos hn] at hK; exact hK I (fun _ _ => rfl) hS
  · rw [if_neg (fun c => c hI)] at hK
    subst e
    simp only [Int.toNat_natCast] at hK
    obtain ⟨b1, b2, b3, b4, b5, b6, b7, b8⟩ := hx.2 (by omega)
    refine c_goThrough n6 b6 g1 (by omega) ?_
    intro J f1 f2 f3 f4
    have hJ := rsr_g f1 f2 hS
    have hK := hK J hJ.1 hJ.2
    rw [f3]
    have ws : wr (((lsT (xT (sX S n))).length : Int) - 1) = ((lsT (xT (sX S n))).length : Int) - 1 := wrx (by omega) (by omega)
    rw [ws]
    refine ⟨fun z => ?_, fun z => ⟨fun z2 => ?_, fun z2 => ?_⟩⟩
    · rw [if_pos (Or.inl z)] at hK; exact hK
    · rw [if_pos (Or.inr (by omega))] at hK; exact hK
    · rw [if_neg (by omega)] at hK
      obtain ⟨pn, hpn⟩ : ∃ pn : Nat, p = pn := ⟨p.toNat, by omega⟩
      subst hpn
      simp only [Int.toNat_natCast] at hK ⊢
      obtain ⟨e, he⟩ : ∃ e, (lsT (xT (sX S n)))[pn]? = some e := ⟨_, List.getElem?_eq_getElem (by omega)⟩
      obtain ⟨q, q1, q2, q3, q4⟩ := f4 pn e he
      rw [he, q4] at hK
      rw [q1]
      have s4 : ∀ k, rd J 244 k = rd I 244 k := fun k => rd_of (f1 _ (by omega) (by omega) (by omega) (by omega) (by omega)) k
      have s5 : ∀ k, rd J 245 k = rd I 245 k := fun k => rd_of (f1 _ (by omega) (by omega) (by omega) (by omega) (by omega)) k
      rw [s5, Int.toNat_natCast]
      refine ⟨fun z3 => ?_, fun z3 => ⟨fun z4 => ?_, fun z4 => ⟨fun z5 => ⟨by omega, by omega, ?_⟩, fun z5 => ⟨fun z6 => ⟨by omega, ?_⟩, fun z6 => ⟨by omega, ?_⟩⟩⟩⟩⟩
      · rw [if_pos (Or.inl z3)] at hK; exact hK
      · rw [if_pos (Or.inr z4)] at hK; exact hK
      · rw [if_neg (by omega), if_neg (by omega), if_pos z5, ← q3] at hK; exact hK
      · rw [if_neg (by omega), if_pos z6] at hK; exact hK
      · rw [if_neg (by omega), if_neg z6, if_neg z5] at hK
        have wq : wr (3 * (q : Int) + w - 1) = ((3 * q + (w.toNat - 1) : Nat) : Int) := wrn _ (by omega) (by omega)
        rw [wq, Int.toNat_natCast, s4]
        refine ⟨by omega, ?_⟩
        have : rd I 244 (3 * q + (w.toNat - 1)) = ew e (w.toNat - 1) := by
          rw [← q3]
          have w3 : w.toNat - 1 = 0 ∨ w.toNat - 1 = 1 ∨ w.toNat - 1 = 2 := by omega
          rcases w3 with h | h | h <;> rw [h] <;> rfl
        rw [this]
        exact hK
theorem c_rwhere {I : Mm} {K : Int → Mm → Prop} {S : St} {f lo hi : Int} (i_f : inR f) (il : inR lo) (ih : inR hi) (hS : RSR I S) (hK : ∀ J : Mm, LFr I J → RSR J (oWhere S f lo hi).2 → K (oWhere S f lo hi).1 J) : CallZ 193 [.inr (3, 0, 0), .inl (1, f), .inl (1, lo), .inl (1, hi)] I K := by
  unfold oWhere at hK
  refine callZ_of rfl (b_r_where i_f il ih ⟨fun z => ?_, fun z => ⟨fun z2 => ?_, fun z2 => ⟨by omega, ?_⟩⟩⟩)
  · rw [if_pos (by omega)] at hK; exact hK I (fun _ _ => rfl) hS
  · rw [if_pos (by omega)] at hK; exact hK I (fun _ _ => rfl) hS
  · rw [if_neg (by omega)] at hK
    obtain ⟨r1, r2, r3, r4, r5⟩ := hS
    intro I1 e1
    refine ⟨by omega, ?_⟩
    intro I2 e2
    have g : ∀ c, c ≠ 247 → c ≠ 248 → I2 c = I c := fun c c1 c2 => by rw [e2, wt_a _ _ _ _ c2, e1, wt_a _ _ _ _ c1]
    refine hK I2 (fun c hc => g c (by omega) (by omega)) ⟨rowR_cg (fun c h1 h2 => g c (by omega) (by omega)) r1, fun t ht => txR_cg (fun c h1 h2 => g c (by omega) (by omega)) (r2 t ht), ⟨cnOK_cg (g _ (by omega) (by omega)) r3.1, fun i hi => ixR_cg (fun c h1 h2 => g c (by omega) (by omega)) (r3.2 i hi)⟩, fun g' hg => ?_, qsR_cg (rd_of (g _ (by omega) (by omega)) _) (rd_of (g _ (by omega) (by omega)) _) (rd_of (g _ (by omega) (by omega)) _) (g _ (by omega) (by omega)) r5⟩
    show rd I2 247 g' = upN (sLo S) f.toNat lo g' ∧ rd I2 248 g' = upN (sHi S) f.toNat hi g'
    by_cases c : g' = f.toNat
    · rw [c, upN_s, upN_s]
      exact ⟨by rw [e2, rd_wt_a _ _ _ _ (by omega), e1, rd_wt_s _ _ _ il], by rw [e2, rd_wt_s _ _ _ ih]⟩
    · rw [upN_o c, upN_o c]
      exact ⟨by rw [e2, rd_wt_a _ _ _ _ (by omega), e1, rd_wt_k _ _ _ _ c]; exact (r4 g' hg).1, by rw [e2, rd_wt_k _ _ _ _ c, e1, rd_wt_a _ _ _ _ (by omega)]; exact (r4 g' hg).2⟩
theorem c_ranswer {I : Mm} {K : Int → Mm → Prop} {S : St} {k : Int} (ik : inR k) (hS : RSR I S) (hK : K (oAns S k) I) : CallZ 203 [.inr (3, 0, 0), .inl (1, k)] I K := by
  obtain ⟨r1, r2, r3, r4, ⟨q1, q2, q3⟩, q4, q5⟩ := hS
  unfold oAns at hK
  refine callZ_of rfl (b_r_answer ik ⟨fun z => ?_, fun z => ?_⟩)
  · rw [if_neg (by omega)] at hK; exact hK
  · have ws : wr (rd I 212 36 - 1) = ((sQ S).1.length : Int) - 1 := by rw [q1]; exact wrx (by omega) (by omega)
    rw [ws]
    refine ⟨fun z2 => ?_, fun z2 => ⟨by omega, ?_⟩⟩
    · rw [if_neg (by omega)] at hK; exact hK
    · rw [if_pos (by omega)] at hK
      obtain ⟨v, hv⟩ : ∃ v, (sQ S).1[k.toNat]? = some v := ⟨_, List.getElem?_eq_getElem (by omega)⟩
      rw [hv] at hK
      rw [q3 _ v hv]
      exact hK
theorem c_rasked {I : Mm} {K : Int → Mm → Prop} {S : St} {w : Int} (iw : inR w) (hS : RSR I S) (hK : K (oAsked S w) I) : CallZ 204 [.inr (3, 0, 0), .inl (1, w)] I K := by
  obtain ⟨r1, r2, r3, r4, ⟨q1, q2, q3⟩, q4, q5⟩ := hS
  unfold oAsked at hK
  refine callZ_of rfl (b_r_asked iw ⟨fun z => ?_, fun z => ⟨fun z2 => ?_, fun z2 => ?_⟩⟩)
  · rw [if_pos z, ← q4] at hK; exact hK
  · rw [if_neg z, if_pos z2, ← q5] at hK; exact hK
  · rw [if_neg z, if_neg z2] at hK; exact hK
theorem has_r {I : Mm} {a f p : Nat} {m : Im} {K : Int → Mm → Prop} (hm : imG I a f p p = m) (hb : bl (rd I f p)) (hK : K (b01 m.isSome) I) : (rd I f p = 0 ∨ rd I f p = 1) ∧ (rd I f p = 0 → rZ K (some (.inl (2, 0))) I) ∧ (¬ rd I f p = 0 → rZ K (some (.inl (2, 1))) I) := by
  refine ⟨hb, fun z => ?_, fun z => ?_⟩
  · rw [imG_none z] at hm; rw [← hm] at hK; exact hK
  · obtain ⟨x, hx⟩ := imG_ex (a := a) (y := p) z
    rw [hx] at hm; rw [← hm] at hK; exact hK
set_option maxHeartbeats 1000000 in
theorem c_rsees {I : Mm} {K : Int → Mm → Prop} {S : St} {t p : Int} (it : inR t) (ip : inR p) (hS : RSR I S) (hO : SOK S) (hK : K (oSees S t p) I) : CallZ 206 [.inr (3, 0, 0), .inl (1, t), .inl (1, p)] I K := by
  have r1 := hS.1
  unfold oSees at hK
  refine callZ_of rfl (b_r_sees it ip ?_)
  have inner : seer S t → ¬ p < 0 → ¬ 319 < p → (t = (-1) → (0 ≤ p ∧ p < 320) ∧ ((rd I 215 p.toNat = 0 ∨ rd I 215 p.toNat = 1) ∧ (rd I 215 p.toNat = 0 → (rZ K) (some (.inl (2, 0))) I) ∧ (¬ rd I 215 p.toNat = 0 → (rZ K) (some (.inl (2, 1))) I))) ∧ (¬ t = (-1) → (0 ≤ p ∧ p < 320) ∧ ((rd I 217 p.toNat = t → (0 ≤ p ∧ p < 320) ∧ ((rd I 216 p.toNat = 0 ∨ rd I 216 p.toNat = 1) ∧ (rd I 216 p.toNat = 0 → (rZ K) (some (.inl (2, 0))) I) ∧ (¬ rd I 216 p.toNat = 0 → (rZ K) (some (.inl (2, 1))) I))) ∧ (¬ rd I 217 p.toNat = t → (0 ≤ p ∧ p < 320) ∧ ((rd I 215 p.toNat = 0 ∨ rd I 215 p.toNat = 1) ∧ (rd I 215 p.toNat = 0 → (rZ K) (some (.inl (2, 0))) I) ∧ (¬ rd I 215 p.toNat = 0 → (rZ K) (some (.inl (2, 1))) I))))) := by
    intro hs z1 z2
    rw [if_neg (fun c => c.elim (fun d => d hs) (fun d => d ⟨by omega, by omega⟩))] at hK
    obtain ⟨pn, hpn⟩ : ∃ pn : Nat, p = pn := ⟨p.toNat, by omega⟩
    subst hpn
    have p3 : pn < 320 := by omega
    simp only [Int.toNat_natCast] at hK ⊢
    obtain ⟨cm, cu, wv, bm, bu⟩ := r1 pn p3
    unfold snI at hK
    refine ⟨fun z => ⟨by omega, ?_⟩, fun z => ⟨by omega, ?_⟩⟩
    · rw [if_neg (fun c => c.1 z)] at hK
      exact has_r cm bm hK
    · rw [wv]
      refine ⟨fun z3 => ⟨by omega, ?_⟩, fun z3 => ⟨by omega, ?_⟩⟩
      · rw [if_pos ⟨z, z3⟩] at hK
        exact has_r cu bu hK
      · rw [if_neg (fun c => z3 c.2)] at hK
        exact has_r cm bm hK
  have bad : ¬ isP p → K (-101) I := fun c => by rw [if_pos (Or.inr c)] at hK; exact hK
  refine ⟨fun z => ⟨fun z1 => bad (fun c => absurd c.1 (by omega)), fun z1 => ⟨fun z2 => bad (fun c => absurd c.2 (by omega)), fun z2 => inner (Or.inl z) z1 z2⟩⟩, fun z => r_act hS hO (fun hn => ?_) (fun tn e t8 ha hact a0 a1 a2 => ?_)⟩
  · rw [if_pos (Or.inl (fun c => c.elim z hn))] at hK
    exact hK
  · exact ⟨fun z1 => bad (fun c => absurd c.1 (by omega)), fun z1 => ⟨fun z2 => bad (fun c => absurd c.2 (by omega)), fun z2 => inner (Or.inr hact) z1 z2⟩⟩
theorem fv_r {I : Mm} {a f p g : Nat} {m : Im} {K : Int → Mm → Prop} (hg : g < 4) (hm : imG I a f p p = m) (hz : ¬ rd I f p = 0) (hK : K (fvI m g) I) : rZ K (some (.inl (1, rd I a (4 * p + g)))) I := by
  obtain ⟨x, hx⟩ := imG_ex (a := a) (y := p) hz
  rw [imG_fv hx hg]
  rw [hx] at hm; rw [← hm] at hK; exact hK
theorem fv_z {I : Mm} {a f p g : Nat} {m : Im} {K : Int → Mm → Prop} (hm : imG I a f p p = m) (hz : rd I f p = 0) (hK : K (fvI m g) I) : rZ K (some (.inl (2, 0))) I := by
  rw [imG_none hz] at hm; rw [← hm] at hK; exact hK
set_option maxHeartbeats 1000000 in
theorem c_rfield {I : Mm} {K : Int → Mm → Prop} {S : St} {t p f : Int} (it : inR t) (ip : inR p) (i_f : inR f) (hS : RSR I S) (hO : SOK S) (hK : K (oField S t p f) I) : CallZ 207 [.inr (3, 0, 0), .inl (1, t), .inl (1, p), .inl (1, f)] I K := by
  have r1 := hS.1
  unfold oField at hK
  refine callZ_of rfl (b_r_field it ip i_f ?_)
  have inner : seer S t → ¬ p < 0 → ¬ 319 < p → ¬ f < 0 → ¬ 3 < f → (t = (-1) → (0 ≤ p ∧ p < 320) ∧ ((rd I 215 p.toNat = 0 ∨ rd I 215 p.toNat = 1) ∧ (rd I 215 p.toNat = 0 → (rZ K) (some (.inl (2, 0))) I) ∧ (¬ rd I 215 p.toNat = 0 → (t = (-1) → (0 ≤ (wr ((4 * p) + f)) ∧ (wr ((4 * p) + f)) < 1280) ∧ ((rZ K) (some (.inl (1, rd I 213 (wr ((4 * p) + f)).toNat))) I)) ∧ (¬ t = (-1) → (0 ≤ p ∧ p < 320) ∧ ((rd I 217 p.toNat = t → (0 ≤ (wr ((4 * p) + f)) ∧ (wr ((4 * p) + f)) < 1280) ∧ ((rZ K) (some (.inl (1, rd I 214 (wr ((4 * p) + f)).toNat))) I)) ∧ (¬ rd I 217 p.toNat = t → (0 ≤ (wr ((4 * p) + f)) ∧ (wr ((4 * p) + f)) < 1280) ∧ ((rZ K) (some (.inl (1, rd I 213 (wr ((4 * p) + f)).toNat))) I))))))) ∧ (¬ t = (-1) → (0 ≤ p ∧ p < 320) ∧ ((rd I 217 p.toNat = t → (0 ≤ p ∧ p < 320) ∧ ((rd I 216 p.toNat = 0 ∨ rd I 216 p.toNat = 1) ∧ (rd I 216 p.toNat = 0 → (rZ K) (some (.inl (2, 0))) I) ∧ (¬ rd I 216 p.toNat = 0 → (t = (-1) → (0 ≤ (wr ((4 * p) + f)) ∧ (wr ((4 * p) + f)) < 1280) ∧ ((rZ K) (some (.inl (1, rd I 213 (wr ((4 * p) + f)).toNat))) I)) ∧ (¬ t = (-1) → (0 ≤ p ∧ p < 320) ∧ ((rd I 217 p.toNat = t → (0 ≤ (wr ((4 * p) + f)) ∧ (wr ((4 * p) + f)) < 1280) ∧ ((rZ K) (some (.inl (1, rd I 214 (wr ((4 * p) + f)).toNat))) I)) ∧ (¬ rd I 217 p.toNat = t → (0 ≤ (wr ((4 * p) + f)) ∧ (wr ((4 * p) + f)) < 1280) ∧ ((rZ K) (some (.inl (1, rd I 213 (wr ((4 * p) + f)).toNat))) I))))))) ∧ (¬ rd I 217 p.toNat = t → (0 ≤ p ∧ p < 320) ∧ ((rd I 215 p.toNat = 0 ∨ rd I 215 p.toNat = 1) ∧ (rd I 215 p.toNat = 0 → (rZ K) (some (.inl (2, 0))) I) ∧ (¬ rd I 215 p.toNat = 0 → (t = (-1) → (0 ≤ (wr ((4 * p) + f)) ∧ (wr ((4 * p) + f)) < 1280) ∧ ((rZ K) (some (.inl (1, rd I 213 (wr ((4 * p) + f)).toNat))) I)) ∧ (¬ t = (-1) → (0 ≤ p ∧ p < 320) ∧ ((rd I 217 p.toNat = t → (0 ≤ (wr ((4 * p) + f)) ∧ (wr ((4 * p) + f)) < 1280) ∧ ((rZ K) (some (.inl (1, rd I 214 (wr ((4 * p) + f)).toNat))) I)) ∧ (¬ rd I 217 p.toNat = t → (0 ≤ (wr ((4 * p) + f)) ∧ (wr ((4 * p) + f)) < 1280) ∧ ((rZ K) (some (.inl (1, rd I 213 (wr ((4 * p) + f)).toNat))) I))))))))) := by
    intro hs z1 z2 z3 z4
    rw [if_neg (fun c => c.elim (fun d => d hs) (fun d => d ⟨by omega, by omega⟩)), if_neg (by omega)] at hK
    obtain ⟨pn, hpn⟩ : ∃ pn : Nat, p = pn := ⟨p.toNat, by omega⟩
    obtain ⟨fn, hfn⟩ : ∃ fn : Nat, f = fn := ⟨f.toNat, by omega⟩
    subst hpn
    subst hfn
    have p3 : pn < 320 := by omega
    have f4 : fn < 4 := by omega
    have wf : wr (4 * (pn : Int) + (fn : Int)) = ((4 * pn + fn : Nat) : Int) := wrn _ (by omega) (by omega)
    rw [wf]
    simp only [Int.toNat_natCast] at hK ⊢
    obtain ⟨cm, cu, wv, bm, bu⟩ := r1 pn p3
    unfold snI at hK
    refine ⟨fun z => ⟨by omega, bm, fun y => ?_, fun y => ⟨fun _ => ⟨by omega, ?_⟩, fun y2 => absurd z y2⟩⟩, fun z => ⟨by omega, ?_⟩⟩
    · rw [if_neg (fun c => c.1 z)] at hK
      exact fv_z cm y hK
    · rw [if_neg (fun c => c.1 z)] at hK
      exact fv_r f4 cm y hK
    · rw [wv]
      refine ⟨fun z3 => ⟨by omega, bu, fun y => ?_, fun y => ⟨fun y2 => absurd y2 z, fun _ => ⟨by omega, fun _ => ⟨by omega, ?_⟩, fun y2 => absurd z3 y2⟩⟩⟩, fun z3 => ⟨by omega, bm, fun y => ?_, fun y => ⟨fun y2 => absurd y2 z, fun _ => ⟨by omega, fun y2 => absurd y2 z3, fun _ => ⟨by omega, ?_⟩⟩⟩⟩⟩
      · rw [if_pos ⟨z, z3⟩] at hK
        exact fv_z cu y hK
      · rw [if_pos ⟨z, z3⟩] at hK
        exact fv_r f4 cu y hK
      · rw [if_neg (fun c => z3 c.2)] at hK
        exact fv_z cm y hK
      · rw [if_neg (fun c => z3 c.2)] at hK
        exact fv_r f4 cm y hK
  have bad : ¬ isP p → K (-101) I := fun c => by rw [if_pos (Or.inr c)] at hK; exact hK
  have badf : seer S t → isP p → ¬ (0 ≤ f ∧ f < 4) → K (-102) I := fun c d e => by rw [if_neg (fun x => x.elim (fun y => y c) (fun y => y d)), if_pos e] at hK; exact hK
  refine ⟨fun z => ⟨fun z1 => bad (fun c => absurd c.1 (by omega)), fun z1 => ⟨fun z2 => bad (fun c => absurd c.2 (by omega)), fun z2 => ⟨fun z3 => badf (Or.inl z) ⟨by omega, by omega⟩ (by omega), fun z3 => ⟨fun z4 => badf (Or.inl z) ⟨by omega, by omega⟩ (by omega), fun z4 => inner (Or.inl z) z1 z2 z3 z4⟩⟩⟩⟩, fun z => r_act hS hO (fun hn => ?_) (fun tn e t8 ha hact a0 a1 a2 => ?_)⟩
  · rw [if_pos (Or.inl (fun c => c.elim z hn))] at hK
    exact hK
  · exact ⟨fun z1 => bad (fun c => absurd c.1 (by omega)), fun z1 => ⟨fun z2 => bad (fun c => absurd c.2 (by omega)), fun z2 => ⟨fun z3 => badf (Or.inr hact) ⟨by omega, by omega⟩ (by omega), fun z3 => ⟨fun z4 => badf (Or.inr hact) ⟨by omega, by omega⟩ (by omega), fun z4 => inner (Or.inr hact) z1 z2 z3 z4⟩⟩⟩⟩
theorem c_rwriter {I : Mm} {K : Int → Mm → Prop} {S : St} {p : Int} (ip : inR p) (hS : RSR I S) (hK : K (oWriter S p) I) : CallZ 208 [.inr (3, 0, 0), .inl (1, p)] I K := by
  unfold oWriter at hK
  refine callZ_of rfl (b_r_writer ip ⟨fun z => ?_, fun z => ⟨fun z2 => ?_, fun z2 => ⟨by omega, ?_⟩⟩⟩)
  · rw [if_neg (by omega)] at hK; exact hK
  · rw [if_neg (by omega)] at hK; exact hK
  · rw [if_pos ⟨by omega, by omega⟩] at hK
    have wv : rd I 217 p.toNat = (sW S).2.2 p.toNat := (hS.1 p.toNat (by omega)).2.2.1
    rw [wv]
    exact hK
