/-! THE REFERENCE: begin, insert, update, remove, records -/
theorem r_act {I : Mm} {S : St} {t : Int} {P B : Prop} (hS : RSR I S) (hO : SOK S) (h0 : ¬ act S t → P) (h1 : ∀ tn : Nat, t = tn → tn < 8 → sA S tn = 1 → act S t → rd I 218 tn = 1 → rd I 219 tn = (sR S tn).length → (sR S tn).length ≤ 200 → B) : (t < 0 → P) ∧ (¬ t < 0 → (7 < t → P) ∧ (¬ 7 < t → (0 ≤ t ∧ t < 8) ∧ ((rd I 218 t.toNat = 0 → P) ∧ (¬ rd I 218 t.toNat = 0 → B)))) := by
  refine ⟨fun z => h0 (fun c => by have := c.1; omega), fun z => ⟨fun z2 => h0 (fun c => by have := c.2.1; omega), fun z2 => ⟨by omega, ?_⟩⟩⟩
  obtain ⟨tn, e⟩ : ∃ tn : Nat, t = tn := ⟨t.toNat, by omega⟩
  subst e
  have t8 : tn < 8 := by omega
  have tx := hS.2.1 tn t8
  rw [Int.toNat_natCast, tx.1]
  refine ⟨fun z3 => h0 (fun c => c.2.2 (by rw [Int.toNat_natCast]; exact z3)), fun z3 => ?_⟩
  have a1 : sA S tn = 1 := by
    rcases hO.1 tn t8 with a | a
    · exact absurd a z3
    · exact a
  obtain ⟨y1, y2, _⟩ := tx.2 z3
  exact h1 tn rfl t8 a1 ⟨by omega, by omega, by rw [Int.toNat_natCast]; exact z3⟩ (by rw [tx.1, a1]) y1 y2
theorem r_lock {I : Mm} {S : St} {t p : Int} {P L B : Prop} (hS : RSR I S) (hl : lkd S t p → L) (hn : ¬ lkd S t p → cuI S p = none → P) (hb : ¬ lkd S t p → ∀ (pn : Nat) (y : F4), p = pn → pn < 320 → cuI S p = some y → (sW S).2.1 pn = some y → imR I 214 pn = some y → B) :
    (p < 0 → (p < 0 → P) ∧ (¬ p < 0 → (319 < p → P) ∧ (¬ 319 < p → (0 ≤ p ∧ p < 320) ∧ ((rd I 216 p.toNat = 0 → P) ∧ (¬ rd I 216 p.toNat = 0 → B))))) ∧ (¬ p < 0 → (319 < p → (p < 0 → P) ∧ (¬ p < 0 → (319 < p → P) ∧ (¬ 319 < p → (0 ≤ p ∧ p < 320) ∧ ((rd I 216 p.toNat = 0 → P) ∧ (¬ rd I 216 p.toNat = 0 → B))))) ∧ (¬ 319 < p → (0 ≤ p ∧ p < 320) ∧ ((rd I 217 p.toNat = (-1) → (p < 0 → P) ∧ (¬ p < 0 → (319 < p → P) ∧ (¬ 319 < p → (0 ≤ p ∧ p < 320) ∧ ((rd I 216 p.toNat = 0 → P) ∧ (¬ rd I 216 p.toNat = 0 → B))))) ∧ (¬ rd I 217 p.toNat = (-1) → (0 ≤ p ∧ p < 320) ∧ ((rd I 217 p.toNat = t → (p < 0 → P) ∧ (¬ p < 0 → (319 < p → P) ∧ (¬ 319 < p → (0 ≤ p ∧ p < 320) ∧ ((rd I 216 p.toNat = 0 → P) ∧ (¬ rd I 216 p.toNat = 0 → B))))) ∧ (¬ rd I 217 p.toNat = t → L)))))) := by
  have U : ¬ lkd S t p → (p < 0 → P) ∧ (¬ p < 0 → (319 < p → P) ∧ (¬ 319 < p → (0 ≤ p ∧ p < 320) ∧ ((rd I 216 p.toNat = 0 → P) ∧ (¬ rd I 216 p.toNat = 0 → B)))) := fun hk => by
    refine ⟨fun z => hn hk (by unfold cuI; rw [if_neg (by omega)]), fun z => ⟨fun z2 => hn hk (by unfold cuI; rw [if_neg (by omega)]), fun z2 => ⟨by omega, ?_⟩⟩⟩
    obtain ⟨pn, e⟩ : ∃ pn : Nat, p = pn := ⟨p.toNat, by omega⟩
    subst e
    have w2 := (hS.1 pn (by omega)).2.1
    have ec : cuI S (pn : Int) = (sW S).2.1 pn := by unfold cuI; rw [if_pos (by omega), Int.toNat_natCast]
    rw [Int.toNat_natCast]
    refine ⟨fun z3 => hn hk ?_, fun z3 => ?_⟩
    · rw [ec, ← w2]; exact imG_none z3
    · obtain ⟨y, hy⟩ : ∃ y, imR I 214 pn = some y := imG_ex z3
      have e2 : (sW S).2.1 pn = some y := by rw [← w2]; exact hy
      exact hb hk pn y rfl (by omega) (by rw [ec]; exact e2) e2 hy
  refine ⟨fun z => U (fun c => by have := c.1; omega), fun z => ⟨fun z2 => U (fun c => by have := c.2.1; omega), fun z2 => ⟨by omega, ?_⟩⟩⟩
  have w3 : rd I 217 p.toNat = (sW S).2.2 p.toNat := (hS.1 p.toNat (by omega)).2.2.1
  rw [w3]
  refine ⟨fun z3 => U (fun c => c.2.2.1 z3), fun z3 => ⟨by omega, fun z4 => U (fun c => c.2.2.2 z4), fun z4 => hl ⟨by omega, by omega, z3, z4⟩⟩⟩
theorem c_rrecords {I : Mm} {K : Int → Mm → Prop} {S : St} {t : Int} (it : inR t) (hS : RSR I S) (hO : SOK S) (hK : K (oRec S t) I) : CallZ 176 [.inr (3, 0, 0), .inl (1, t)] I K := by
  unfold oRec at hK
  refine callZ_of rfl (b_r_records it (r_act hS hO (fun hn => ?_) (fun tn e t8 a1 ha y0 y1 y2 => ⟨by omega, ?_⟩)))
  · rw [if_pos hn] at hK; exact hK
  · rw [if_neg (fun c => c ha)] at hK
    subst e
    rw [Int.toNat_natCast] at hK ⊢
    rw [y1]
    exact hK
theorem c_rbegin {I : Mm} {K : Int → Mm → Prop} {S : St} (hS : RSR I S) (hO : SOK S) (hK : ∀ J : Mm, LFr I J → RSR J (oBegin S).2 → K (oBegin S).1 J) : CallZ 170 [.inr (3, 0, 0)] I K := by
  have hS0 := hS
  obtain ⟨r1, r2, r3, r4, r5⟩ := hS
  have loop : ∀ (d t : Nat), t + d = 8 → ff (fun t => decide (sA S t = 0)) d t = ff (fun t => decide (sA S t = 0)) 8 0 → GoA 170 2 [some (.inr (3, 0, 0)), some (.inl (1, (t : Int)))] [] I (rZ K) := by
    intro d
    induction d with
    | zero =>
      intro t ht hs
      have hs : (-1 : Int) = ff (fun t => decide (sA S t = 0)) 8 0 := hs
      refine b_r_begin_2 (inRn (by omega)) ⟨fun _ => ?_, fun z => absurd (by omega) z⟩
      unfold oBegin at hK
      rw [if_pos hs.symm] at hK
      exact hK I (fun _ _ => rfl) hS0
    | succ d ih =>
      intro t ht hs
      have hs : (if decide (sA S t = 0) = true then (t : Int) else ff (fun t => decide (sA S t = 0)) d (t + 1)) = ff (fun t => decide (sA S t = 0)) 8 0 := hs
      refine b_r_begin_2 (inRn (by omega)) ⟨fun z => absurd z (by omega), fun _ => ⟨by omega, ?_⟩⟩
      rw [Int.toNat_natCast, (r2 t (by omega)).1]
      refine ⟨fun z => ⟨by omega, fun I1 e1 => ⟨by omega, fun I2 e2 => ?_⟩⟩, fun z v ev _ => ?_⟩
      · rw [if_pos (decide_eq_true z)] at hs
        unfold oBegin at hK
        rw [← hs, if_neg (by omega), Int.toNat_natCast] at hK
        have g : ∀ c, c ≠ 218 → c ≠ 219 → I2 c = I c := fun c h1 h2 => by rw [e2, wt_a _ _ _ _ h2, e1, wt_a _ _ _ _ h1]
        refine hK I2 (fun c hc => g c (by omega) (by omega)) ⟨rowR_cg (fun c h1 h2 => g c (by omega) (by omega)) r1, fun t' ht' => ?_, ⟨cnOK_cg (g _ (by omega) (by omega)) r3.1, fun i hi => ixR_cg (fun c h1 h2 => g c (by omega) (by omega)) (r3.2 i hi)⟩, bdR_cg (g _ (by omega) (by omega)) (g _ (by omega) (by omega)) r4, qsR_cg (rd_of (g _ (by omega) (by omega)) _) (rd_of (g _ (by omega) (by omega)) _) (rd_of (g _ (by omega) (by omega)) _) (g _ (by omega) (by omega)) r5⟩
        show TxR I2 t' (upN (sA S) t 1 t') (upN (sR S) t [] t')
        by_cases c : t' = t
        · subst c
          rw [upN_s, upN_s]
          exact ⟨by rw [e2, rd_wt_a _ _ _ _ (by omega), e1, rd_wt_s _ _ _ ⟨by omega, by omega⟩], fun _ => ⟨by rw [e2, rd_wt_s _ _ _ ⟨by omega, by omega⟩]; rfl, by simp, fun j p m v hj => by simp at hj⟩⟩
        · rw [upN_o c, upN_o c]
          exact txR_up c (by rw [e2, rd_wt_a _ _ _ _ (by omega), e1, rd_wt_k _ _ _ _ c]) (by rw [e2, rd_wt_k _ _ _ _ c, e1, rd_wt_a _ _ _ _ (by omega)]) (fun r _ => ⟨rd_of (g _ (by omega) (by omega)) _, rd_of (g _ (by omega) (by omega)) _, rd_of (g _ (by omega) (by omega)) _, fun _ _ => rd_of (g _ (by omega) (by omega)) _⟩) (r2 t' ht')
      · rw [if_neg (by rw [decide_eq_false z]; decide)] at hs
        rw [wrn (t + 1) (by omega) (by omega)] at ev
        subst ev
        exact ih (t + 1) (by omega) hs
  exact callZ_of rfl (b_r_begin (loop 8 0 (by omega) rfl))
theorem rsr_256 {I J : Mm} {S : St} (h : ∀ c, c ≠ 256 → J c = I c) (hS : RSR I S) : RSR J S := rsr_of (fun c _ _ => h c (by omega)) (rd_of (h _ (by omega)) _) (rd_of (h _ (by omega)) _) (rd_of (h _ (by omega)) _) hS
set_option maxHeartbeats 2000000 in
theorem c_rinsert {I : Mm} {K : Int → Mm → Prop} {S : St} {t a b c d : Int} (it : inR t) (ia : inR a) (ib : inR b) (ic : inR c) (id : inR d) (hS : RSR I S) (hO : SOK S)
    (hK : ∀ J : Mm, LFr I J → RSR J (oIns S t a b c d).2 → K (oIns S t a b c d).1 J) : CallZ 172 [.inr (3, 0, 0), .inl (1, t), .inl (1, a), .inl (1, b), .inl (1, c), .inl (1, d)] I K := by
  unfold oIns at hK
  refine callZ_of rfl (b_r_insert it ia ib ic id (r_act hS hO (fun hn => ?_) (fun tn e t8 a1 ha y0 y1 y2 => ?_)))
  · rw [if_pos hn] at hK; exact hK I (fun _ _ => rfl) hS
  rw [if_neg (fun c => c ha)] at hK
  subst e
  rw [Int.toNat_natCast] at hK
  have loop : ∀ (l p : Nat), p + l = 320 → ff (fun p => decide ((sW S).2.2 p = -1) && ((sW S).2.1 p).isNone) l p = frp (sW S) → GoA 172 14 [some (.inr (3, 0, 0)), some (.inl (1, (tn : Int))), some (.inl (1, a)), some (.inl (1, b)), some (.inl (1, c)), some (.inl (1, d)), some (.inl (1, (p : Int))), none] [] I (rZ K) := by
    intro l
    induction l with
    | zero =>
      intro p hp hs
      have hs : (-1 : Int) = frp (sW S) := hs
      refine b_r_insert_14 it ia ib ic id (inRn (by omega)) okO_n ⟨fun _ => ⟨fun _ => ?_, fun z => absurd (by omega) z⟩, fun z => absurd (by omega) z⟩
      rw [if_pos (Or.inl hs.symm)] at hK
      exact hK I (fun _ _ => rfl) hS
    | succ l ih =>
      intro p hp hs
      have hs : (if (decide ((sW S).2.2 p = -1) && ((sW S).2.1 p).isNone) = true then (p : Int) else ff (fun p => decide ((sW S).2.2 p = -1) && ((sW S).2.1 p).isNone) l (p + 1)) = frp (sW S) := hs
      have p3 : p < 320 := by omega
      obtain ⟨w1, w2, w3, w4, w5⟩ := hS.1 p p3
      have nx : ((decide ((sW S).2.2 p = -1) && ((sW S).2.1 p).isNone) = false) → ∀ v : Int, v = wr ((p : Int) + 1) → GoA 172 14 [some (.inr (3, 0, 0)), some (.inl (1, (tn : Int))), some (.inl (1, a)), some (.inl (1, b)), some (.inl (1, c)), some (.inl (1, d)), some (.inl (1, v)), none] [] I (rZ K) := fun h v ev => by
        rw [if_neg (by rw [h]; decide)] at hs
        rw [wrn (p + 1) (by omega) (by omega)] at ev
        subst ev
        exact ih (p + 1) (by omega) hs
      refine b_r_insert_14 it ia ib ic id (inRn (by omega)) okO_n ⟨fun z => absurd z (by omega), fun _ => ⟨by omega, ?_⟩⟩
      rw [Int.toNat_natCast, w3]
      refine ⟨fun z1 => ⟨by omega, fun z2 => ⟨fun z => absurd z (by omega), fun _ => ⟨by omega, fun J1 e1 => ⟨by omega, fun J2 e2 => ⟨by omega, fun J3 e3 => ⟨by omega, fun J4 e4 => ?_⟩⟩⟩⟩⟩, fun z2 v ev _ => nx ?_ v ev⟩, fun z1 v ev _ => nx ?_ v ev⟩
      · have en : (sW S).2.1 p = none := by rw [← w2]; exact imG_none z2
        rw [if_pos (by rw [decide_eq_true z1, en]; rfl)] at hs
        rw [← hs, Int.toNat_natCast] at hK
        have g : ∀ c, c ≠ 256 → J4 c = I c := fun c h => by rw [e4, wt_a _ _ _ _ h, e3, wt_a _ _ _ _ h, e2, wt_a _ _ _ _ h, e1, wt_a _ _ _ _ h]
        have v3 : rd J4 256 3 = d := by rw [e4, rd_wt_s _ _ _ id]
        have v2 : rd J4 256 2 = c := by rw [e4, rd_wt_k _ _ _ _ (by omega), e3, rd_wt_s _ _ _ ic]
        have v1 : rd J4 256 1 = b := by rw [e4, rd_wt_k _ _ _ _ (by omega), e3, rd_wt_k _ _ _ _ (by omega), e2, rd_wt_s _ _ _ ib]
        have v0 : rd J4 256 0 = a := by rw [e4, rd_wt_k _ _ _ _ (by omega), e3, rd_wt_k _ _ _ _ (by omega), e2, rd_wt_k _ _ _ _ (by omega), e1, rd_wt_s _ _ _ ia]
        refine c_rwrite (m := some (a, b, c, d)) (rsr_256 g hS) hO t8 a1 p3 (Or.inr ⟨rfl, by rw [v0, v1, v2, v3]⟩) ?_
        intro J fJ hJ v ev _
        subst ev
        unfold oWr at hJ ⊢
        by_cases c1 : 200 ≤ (sR S tn).length
        · rw [if_pos c1] at hJ ⊢
          rw [if_pos (Or.inr c1)] at hK
          refine ⟨fun z => absurd (show (-104 : Int) = 1 from z) (by decide), fun _ => hK J (fun c hc => by rw [fJ c hc, g c (by omega)]) hJ⟩
        · rw [if_neg c1] at hJ ⊢
          rw [if_neg (by omega)] at hK
          by_cases c2 : clS (sX S) (wRow (sW S) p (some (a, b, c, d)) tn) p = true
          · rw [if_pos ⟨rfl, c2⟩] at hJ ⊢
            rw [if_pos c2] at hK
            exact ⟨fun z => absurd (show (-105 : Int) = 1 from z) (by decide), fun _ => hK J (fun c hc => by rw [fJ c hc, g c (by omega)]) hJ⟩
          · rw [if_neg (fun z => c2 z.2)] at hJ ⊢
            rw [if_neg c2] at hK
            exact ⟨fun _ => hK J (fun c hc => by rw [fJ c hc, g c (by omega)]) hJ, fun z => absurd rfl z⟩
      · obtain ⟨y, hy⟩ : ∃ y, imR I 214 p = some y := imG_ex z2
        rw [← w2, hy]
        exact Bool.and_false _
      · rw [decide_eq_false z1]; rfl
  exact loop 320 0 (by omega) rfl
set_option maxHeartbeats 2000000 in
theorem c_rremove {I : Mm} {K : Int → Mm → Prop} {S : St} {t p : Int} (it : inR t) (ip : inR p) (hS : RSR I S) (hO : SOK S)
    (hK : ∀ J : Mm, LFr I J → RSR J (oRem S t p).2 → K (oRem S t p).1 J) : CallZ 175 [.inr (3, 0, 0), .inl (1, t), .inl (1, p)] I K := by
  unfold oRem at hK
  refine callZ_of rfl (b_r_remove it ip (r_act hS hO (fun hn => ?_) (fun tn e t8 a1 ha y0 y1 y2 => ?_)))
  · rw [if_pos hn] at hK; exact hK I (fun _ _ => rfl) hS
  rw [if_neg (fun c => c ha)] at hK
  have body : ¬ lkd S t p → ∀ (pn : Nat) (y : F4), p = pn → pn < 320 → cuI S p = some y → (sW S).2.1 pn = some y → imR I 214 pn = some y → CallZ 171 [.inr (3, 0, 0), .inl (1, t), .inl (1, p), .inl (2, 0)] I (fun x1 I1 => (rZ K) (some (.inl (1, x1))) I1) := fun hl pn y ep p3 hc _ _ => by
    rw [if_neg hl, hc] at hK
    subst ep
    subst e
    refine c_rwrite (m := none) hS hO t8 a1 p3 (Or.inl ⟨rfl, rfl⟩) ?_
    intro J fJ hJ
    have hK : ∀ J : Mm, LFr I J → RSR J (oRm2 S ((tn : Int)).toNat ((pn : Int)).toNat).2 → K (oRm2 S ((tn : Int)).toNat ((pn : Int)).toNat).1 J := hK
    rw [Int.toNat_natCast, Int.toNat_natCast] at hK
    have e : oWr S tn pn none = oRm2 S tn pn := by
      unfold oWr oRm2
      by_cases c : 200 ≤ (sR S tn).length
      · rw [if_pos c, if_pos c]
      · rw [if_neg c, if_neg c, if_neg (fun z => absurd z.1 (by decide))]
    rw [e] at hJ ⊢
    exact hK J fJ hJ
  refine r_lock hS (fun hl => ?_) (fun hl hc => ?_) body
  · rw [if_pos hl] at hK; exact hK I (fun _ _ => rfl) hS
  · rw [if_neg hl, hc] at hK; exact hK I (fun _ _ => rfl) hS
theorem setF_fv (y : F4) (f : Nat) (x : Int) (hf : f < 4) : setF y f x = ((if 0 = f then x else fv y 0), (if 1 = f then x else fv y 1), (if 2 = f then x else fv y 2), (if 3 = f then x else fv y 3)) := by
  have : f = 0 ∨ f = 1 ∨ f = 2 ∨ f = 3 := by omega
  rcases this with rfl | rfl | rfl | rfl <;> rfl
set_option maxHeartbeats 2000000 in
theorem c_rupdate {I : Mm} {K : Int → Mm → Prop} {S : St} {t p f x : Int} (it : inR t) (ip : inR p) (i_f : inR f) (ix : inR x) (hS : RSR I S) (hO : SOK S)
    (hK : ∀ J : Mm, LFr I J → RSR J (oUpd S t p f x).2 → K (oUpd S t p f x).1 J) : CallZ 174 [.inr (3, 0, 0), .inl (1, t), .inl (1, p), .inl (1, f), .inl (1, x)] I K := by
  unfold oUpd at hK
  refine callZ_of rfl (b_r_update it ip i_f ix (r_act hS hO (fun hn => ?_) (fun tn e t8 a1 ha y0 y1 y2 => ⟨fun z => ?_, fun z => ⟨fun z2 => ?_, fun z2 => ?_⟩⟩)))
  · rw [if_pos hn] at hK; exact hK I (fun _ _ => rfl) hS
  · rw [if_neg (fun c => c ha), if_pos (by omega)] at hK; exact hK I (fun _ _ => rfl) hS
  · rw [if_neg (fun c => c ha), if_pos (by omega)] at hK; exact hK I (fun _ _ => rfl) hS
  rw [if_neg (fun c => c ha), if_neg (by omega)] at hK
  obtain ⟨fn, ef⟩ : ∃ fn : Nat, f = fn := ⟨f.toNat, by omega⟩
  subst ef
  have f4 : fn < 4 := by omega
  refine r_lock hS (fun hl => ?_) (fun hl hc => ?_) (fun hl pn y ep p3 hc hw hy => ?_)
  · rw [if_pos hl] at hK; exact hK I (fun _ _ => rfl) hS
  · rw [if_neg hl, hc] at hK; exact hK I (fun _ _ => rfl) hS
  rw [if_neg hl, hc] at hK
  subst ep
  subst e
  have hK : ∀ J : Mm, LFr I J → RSR J (oUp2 S ((tn : Int)).toNat ((pn : Int)).toNat y ((fn : Int)).toNat x).2 → K (oUp2 S ((tn : Int)).toNat ((pn : Int)).toNat y ((fn : Int)).toNat x).1 J := hK
  rw [Int.toNat_natCast, Int.toNat_natCast, Int.toNat_natCast] at hK
  have wv : wr (4 * (pn : Int) + (fn : Int)) = ((4 * pn + fn : Nat) : Int) := wrn (4 * pn + fn) (by omega) (by omega)
  have yv : ∀ g, g < 4 → rd I 214 (4 * pn + g) = fv y g := fun g hg => imG_fv hy hg
  rw [wv, Int.toNat_natCast, yv fn f4]
  unfold oUp2 at hK
  refine ⟨by omega, fun z3 => ?_, fun z3 => ?_⟩
  · rw [if_pos z3] at hK; exact hK I (fun _ _ => rfl) hS
  rw [if_neg z3] at hK
  have loop : ∀ (d g : Nat) (J : Mm), g + d = 4 → (∀ c, c ≠ 256 → J c = I c) → (∀ q, q < g → rd J 256 q = if q = fn then x else fv y q) → GoA 174 74 [some (.inr (3, 0, 0)), some (.inl (1, (tn : Int))), some (.inl (1, (pn : Int))), some (.inl (1, (fn : Int))), some (.inl (1, x)), some (.inl (1, (g : Int)))] [] J (rZ K) := by
    intro d
    induction d with
    | zero =>
      intro g J hg h1 h2
      refine b_r_update_74 (inRn (by omega)) (inRn (by omega)) (inRn (by omega)) ix (inRn (by omega)) ⟨fun _ => ?_, fun z => absurd (by omega) z⟩
      refine c_rwrite (m := some (setF y fn x)) (rsr_256 h1 hS) hO t8 a1 p3 (Or.inr ⟨rfl, ?_⟩) ?_
      · rw [h2 0 (by omega), h2 1 (by omega), h2 2 (by omega), h2 3 (by omega), setF_fv y fn x f4]
      · intro L fL hL
        have fI : LFr I L := fun c hc => by rw [fL c hc, h1 c (by omega)]
        have e : oWr S tn pn (some (setF y fn x)) = (if 200 ≤ (sR S tn).length then (-104, S) else if clS (sX S) (wRow (sW S) pn (some (setF y fn x)) tn) pn = true then (-105, S) else (1, sWrite S tn pn (some (setF y fn x)))) := by
          unfold oWr
          by_cases c : 200 ≤ (sR S tn).length
          · rw [if_pos c, if_pos c]
          · rw [if_neg c, if_neg c]
            by_cases c2 : clS (sX S) (wRow (sW S) pn (some (setF y fn x)) tn) pn = true
            · rw [if_pos ⟨rfl, c2⟩, if_pos c2]
            · rw [if_neg (fun z => c2 z.2), if_neg c2]
        rw [e] at hL ⊢
        exact hK L fI hL
    | succ d ih =>
      intro g J hg h1 h2
      have nx : ∀ (L : Mm) (u v : Int), inR u → (u = if g = fn then x else fv y g) → L = wt J 256 g u → v = wr ((g : Int) + 1) → GoA 174 74 [some (.inr (3, 0, 0)), some (.inl (1, (tn : Int))), some (.inl (1, (pn : Int))), some (.inl (1, (fn : Int))), some (.inl (1, x)), some (.inl (1, v))] [] L (rZ K) := fun L u v iu eu eL ev => by
        rw [wrn (g + 1) (by omega) (by omega)] at ev
        subst ev
        refine ih (g + 1) L (by omega) (fun c hc => by rw [eL, wt_a _ _ _ _ hc, h1 c hc]) (fun q hq => ?_)
        by_cases c : q = g
        · subst c; rw [eL, rd_wt_s _ _ _ iu, eu]
        · rw [eL, rd_wt_k _ _ _ _ c, h2 q (by omega)]
      have wg : wr (4 * (pn : Int) + (g : Int)) = ((4 * pn + g : Nat) : Int) := wrn (4 * pn + g) (by omega) (by omega)
      refine b_r_update_74 (inRn (by omega)) (inRn (by omega)) (inRn (by omega)) ix (inRn (by omega)) ⟨fun z => absurd z (by omega), fun _ => ?_⟩
      rw [wg, Int.toNat_natCast, Int.toNat_natCast, rd_of (h1 214 (by omega)), yv g (by omega)]
      refine ⟨fun z => ⟨by omega, fun L eL v ev _ => nx L x v ix (by rw [if_pos (by omega)]) eL ev⟩, fun z => ⟨by omega, by omega, fun L eL v ev _ => nx L _ v ?_ (by rw [if_neg (by omega)]) eL ev⟩⟩
      rw [← yv g (by omega)]
      exact rd_in _ _ _
  exact loop 4 0 I (by omega) (fun _ _ => rfl) (fun q hq => absurd hq (by omega))
