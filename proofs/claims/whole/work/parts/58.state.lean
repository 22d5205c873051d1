/-! THE STATE; what the class's cells say of it -/
abbrev Rc : Type := Nat × Im × Int
abbrev St : Type := Rw × ((Nat → Int) × (Nat → List Rc)) × (Nat → Ix) × ((Nat → Int) × (Nat → Int)) × (List Int × Int × Int)
def sW (S : St) : Rw := S.1
def sA (S : St) : Nat → Int := S.2.1.1
def sR (S : St) : Nat → List Rc := S.2.1.2
def sX (S : St) : Nat → Ix := S.2.2.1
def sLo (S : St) : Nat → Int := S.2.2.2.1.1
def sHi (S : St) : Nat → Int := S.2.2.2.1.2
def sQ (S : St) : List Int × Int × Int := S.2.2.2.2
def upN {α : Type} (f : Nat → α) (k : Nat) (v : α) : Nat → α := fun j => if j = k then v else f j
theorem upN_s {α : Type} {f : Nat → α} {k : Nat} {v : α} : upN f k v k = v := if_pos rfl
theorem upN_o {α : Type} {f : Nat → α} {k j : Nat} {v : α} (h : j ≠ k) : upN f k v j = f j := if_neg h
def TxA (I : Mm) (t : Nat) (R : List Rc) : Prop := ∀ j p m v, R[j]? = some (p, m, v) → rd I (22 + 5 * t + 1) j = ((p : Nat) : Int) ∧ p < 320 ∧ rd I (22 + 5 * t + 2) j = v ∧ imC I (22 + 5 * t + 4) j = m
def TxC (I : Mm) (t : Nat) (a : Int) (R : List Rc) : Prop := rd I (22 + 5 * t) 0 = a ∧ (¬ a = 0 → rd I (22 + 5 * t) 1 = R.length ∧ R.length ≤ 200 ∧ TxA I t R)
def QsC (I : Mm) (q : List Int × Int × Int) : Prop := (rd I 0 9 = q.1.length ∧ q.1.length ≤ 320 ∧ ∀ (j : Nat) (v : Int), q.1[j]? = some v → rd I 21 j = v) ∧ rd I 0 10 = q.2.1 ∧ rd I 0 11 = q.2.2
def RSC (I : Mm) (S : St) : Prop := RowC I 1 (sW S) ∧ (∀ t, t < 8 → TxC I t (sA S t) (sR S t)) ∧ (∀ i, i < 6 → IxC I (62 + 25 * i) (sX S i)) ∧ BdC I (sLo S) (sHi S) ∧ QsC I (sQ S)
theorem isX_i {i : Nat} (h : i < 6) : isX (62 + 25 * i) := ⟨i, h, rfl⟩
theorem txA_cg {I J : Mm} {t : Nat} {R : List Rc} (h1 : J (22 + 5 * t + 1) = I (22 + 5 * t + 1)) (h2 : J (22 + 5 * t + 2) = I (22 + 5 * t + 2)) (h4 : J (22 + 5 * t + 4) = I (22 + 5 * t + 4)) (h : TxA I t R) : TxA J t R := fun j p m v hj => by
  obtain ⟨a, b, c, d⟩ := h j p m v hj
  exact ⟨by rw [rd_of h1]; exact a, b, by rw [rd_of h2]; exact c, by rw [imC_cg h4]; exact d⟩
theorem txC_cg {I J : Mm} {t : Nat} {a : Int} {R : List Rc} (h : ∀ c, 22 + 5 * t ≤ c → c ≤ 22 + 5 * t + 4 → J c = I c) (hx : TxC I t a R) : TxC J t a R := ⟨by rw [rd_of (h _ (by omega) (by omega))]; exact hx.1, fun z => ⟨by rw [rd_of (h _ (by omega) (by omega))]; exact (hx.2 z).1, (hx.2 z).2.1, txA_cg (h _ (by omega) (by omega)) (h _ (by omega) (by omega)) (h _ (by omega) (by omega)) (hx.2 z).2.2⟩⟩
theorem bdC_cg {I J : Mm} {lo hi : Nat → Int} (h1 : J 19 = I 19) (h2 : J 20 = I 20) (h : BdC I lo hi) : BdC J lo hi := fun f hf => by rw [rd_of h1, rd_of h2]; exact h f hf
theorem qsC_cg {I J : Mm} {q : List Int × Int × Int} (h0 : J 0 = I 0) (h1 : J 21 = I 21) (h : QsC I q) : QsC J q := ⟨⟨by rw [rd_of h0]; exact h.1.1, h.1.2.1, fun j v hj => by rw [rd_of h1]; exact h.1.2.2 j v hj⟩, by rw [rd_of h0]; exact h.2.1, by rw [rd_of h0]; exact h.2.2⟩
/-- an image in its words -/
theorem imC_cp {I J : Mm} {a b p q n : Nat} (h : J = cp I a b (5 * p) (5 * q) 5) (hab : a ≠ b) : (imC J b q = imC I a p) ∧ (∀ r, r ≠ q → imC J b r = imC I b r) ∧ (∀ c, c ≠ b → J c = I c) := by
  have r : ∀ j, rd J b j = if 5 * q ≤ j ∧ j < 5 * q + 5 then rd I a (5 * p + (j - 5 * q)) else rd I b j := fun j => by rw [h, rd_cp, if_pos rfl]
  refine ⟨?_, fun r' hr => ?_, fun c hc => by rw [h, cp_a _ _ _ _ _ _ hc]⟩
  · have v : ∀ k, k < 5 → rd J b (5 * q + k) = rd I a (5 * p + k) := fun k hk => by rw [r, if_pos (by omega), show 5 * p + (5 * q + k - 5 * q) = 5 * p + k by omega]
    have v0 : rd J b (5 * q) = rd I a (5 * p) := v 0 (by omega)
    unfold imC
    rw [v 4 (by omega), v0, v 1 (by omega), v 2 (by omega), v 3 (by omega)]
  · have v : ∀ k, k < 5 → rd J b (5 * r' + k) = rd I b (5 * r' + k) := fun k hk => by rw [r, if_neg (by omega)]
    have v0 : rd J b (5 * r') = rd I b (5 * r') := v 0 (by omega)
    unfold imC
    rw [v 4 (by omega), v0, v 1 (by omega), v 2 (by omega), v 3 (by omega)]
/-- an index is told of a change -/
def xT1 (c : Int) (o : Option E) (x : Ix) : Ix := match o with
  | some e => xTk c e x
  | none => x
def xTell (w : Rw) (rep : Im) (p : Nat) (x : Ix) : Ix := if xU x = 0 then x else xT1 0 (nwE (xK x) rep (w.2.1 p) (w.1 p) p) (xT1 1 (nwE (xK x) (w.2.1 p) rep (w.1 p) p) x)
def tlOK (x : Ix) : Prop := xU x = 0 ∨ (xU x = 1 ∧ kyOK (xK x) ∧ good (xT x) ∧ (lsT (xT x)).length ≤ 646 ∧ xP x ≤ 40)
theorem xTk_k (c : Int) (e : E) (x : Ix) : xK (xTk c e x) = xK x ∧ xU (xTk c e x) = xU x ∧ xP (xTk c e x) = xP x := by
  unfold xTk
  split
  · exact ⟨rfl, rfl, rfl⟩
  · split
    · split
      · exact ⟨rfl, rfl, rfl⟩
      · exact ⟨rfl, rfl, rfl⟩
    · exact ⟨rfl, rfl, rfl⟩
theorem tE_good : good tE := ⟨⟨Nat.le_refl _, by show ([] : List E).length ≤ 4; simp⟩, List.Pairwise.nil⟩
theorem xTk_t {c : Int} {e : E} {x : Ix} (hg : good (xT x)) : good (xT (xTk c e x)) ∧ (lsT (xT (xTk c e x))).length ≤ (lsT (xT x)).length + 1 := by
  unfold xTk
  split
  · show good (stepT c e (xT x)) ∧ (lsT (stepT c e (xT x))).length ≤ _
    unfold stepT
    split
    · have := cut_good (e := e) hg
      exact ⟨this.1, by omega⟩
    · have := add_good (e := e) hg
      exact ⟨this.1, this.2.2⟩
  · split
    · split
      · exact ⟨hg, by show (lsT (xT x)).length ≤ _; omega⟩
      · exact ⟨tE_good, by show (lsT tE).length ≤ _; exact Nat.zero_le _⟩
    · exact ⟨hg, by omega⟩
set_option maxHeartbeats 2000000 in
theorem c_tell {I : Mm} {K : Mm → Prop} {p fa : Nat} {w : Rw} {rep : Im} {X : Nat → Ix} (hp : p < 320) (hw : RowC I 1 w) (hr : imC I 18 0 = rep) (hX : ∀ i, i < 6 → IxC I (62 + 25 * i) (X i)) (ht : ∀ i, i < 6 → tlOK (X i))
    (hK : ∀ I' : Mm, (∀ c, (c < 62 ∨ 212 ≤ c) → I' c = I c) → (∀ i, i < 6 → IxC I' (62 + 25 * i) (xTell w rep p (X i))) → K I') : CallV 102 [.inr (0, 0, 0), .inl (fa, (p : Int))] I K := by
  have loop : ∀ (d i : Nat) (J : Mm), i + d = 6 → (∀ c, (c < 62 ∨ 212 ≤ c) → J c = I c) → (∀ j, j < i → IxC J (62 + 25 * j) (xTell w rep p (X j))) → (∀ j, i ≤ j → j < 6 → IxC J (62 + 25 * j) (X j)) → GoA 102 2 [some (.inr (0, 0, 0)), some (.inl (1, (p : Int))), some (.inl (1, (i : Int)))] [] J (rV K) := by
    intro d
    induction d with
    | zero =>
      intro i J hi f1 f2 f3
      refine b_c_tellIndexes_2 (inRn (by omega)) (inRn (by omega)) ⟨fun _ => ?_, fun z => absurd (by omega) z⟩
      exact hK J f1 (fun j hj => f2 j (by omega))
    | succ d ih =>
      intro i J hi f1 f2 f3
      have hB := isX_i (show i < 6 by omega)
      have hxi := f3 i (Nat.le_refl _) (by omega)
      have hwJ : RowC J 1 w := rowC_cg (f1 _ (by omega)) (f1 _ (by omega)) (f1 _ (by omega)) hw
      have hrJ : imC J 18 0 = rep := by rw [imC_cg (f1 _ (by omega))]; exact hr
      have next : ∀ J' : Mm, XFr J J' (62 + 25 * i) → IxC J' (62 + 25 * i) (xTell w rep p (X i)) → ∀ v2, v2 = wr ((i : Int) + 1) → inR v2 → GoA 102 2 [some (.inr (0, 0, 0)), some (.inl (1, (p : Int))), some (.inl (1, v2))] [] J' (rV K) := by
        intro J' g1 g2 v2 e2 _
        rw [wrn (i + 1) (by omega) (by omega)] at e2
        subst e2
        refine ih (i + 1) J' (by omega) (fun c hc => by rw [g1 c (by omega), f1 c hc]) (fun j hj => ?_) (fun j h1 h2 => ixC_fr (fun c c1 c2 => g1 c (by omega)) (f3 j (by omega) h2))
        by_cases c : j = i
        · subst c; exact g2
        · exact ixC_fr (fun c c1 c2 => g1 c (by omega)) (f2 j (by omega))
      refine b_c_tellIndexes_2 (inRn (by omega)) (inRn (by omega)) ⟨fun z => absurd z (by omega), fun _ => ⟨by omega, ?_⟩⟩
      rw [Int.toNat_natCast, hxi.1]
      rcases ht i (by omega) with hU | ⟨hU, hk, hg, hl, hP⟩
      · refine ⟨fun _ => next J (fun _ _ => rfl) (by unfold xTell; rw [if_pos hU]; exact hxi), fun z => absurd hU z⟩
      · refine ⟨fun z => absurd z (by omega), fun _ => ⟨by omega, ?_⟩⟩
        have hCJ : kyC J (62 + 25 * i) (xK (X i)) := (hxi.2.2 (by omega)).2.1
        have cu : imC J 5 p = w.2.1 p := (hwJ p hp).2.1
        have cm : imC J 3 p = w.1 p := (hwJ p hp).1
        have xt : xTell w rep p (X i) = xT1 0 (nwE (xK (X i)) rep (w.2.1 p) (w.1 p) p) (xT1 1 (nwE (xK (X i)) (w.2.1 p) rep (w.1 p) p) (X i)) := if_neg (by omega)
        -- the second half
        have second : ∀ (J1 : Mm) (y : Ix), XFr J J1 (62 + 25 * i) → IxC J1 (62 + 25 * i) y → y = xT1 1 (nwE (xK (X i)) (w.2.1 p) rep (w.1 p) p) (X i) → CallZ 22 [.inr (2, (62 + 25 * i), 0), .inr (0, 0, 1), .inl (1, (p : Int)), .inr (0, 0, 17)] J1 (fun x2 I2 => (x2 = 0 → ∀ v2_1, v2_1 = wr ((i : Int) + 1) → inR v2_1 → GoA 102 2 [some (.inr (0, 0, 0)), some (.inl (1, (p : Int))), some (.inl (1, v2_1))] [] I2 (rV K)) ∧ (¬ x2 = 0 → (0 ≤ (i : Int) ∧ (i : Int) < 6) ∧ (CallV 23 [.inr (2, (62 + 25 * i), 0), .inl (2, 0)] I2 (fun I3 => ∀ v2_2, v2_2 = wr ((i : Int) + 1) → inR v2_2 → GoA 102 2 [some (.inr (0, 0, 0)), some (.inl (1, (p : Int))), some (.inl (1, v2_2))] [] I3 (rV K))))) := by
          intro J1 y g1 g2 hy
          have ky : xK y = xK (X i) ∧ xU y = 1 ∧ xP y ≤ 40 ∧ good (xT y) ∧ (lsT (xT y)).length ≤ 647 := by
            rw [hy]
            unfold xT1
            cases nwE (xK (X i)) (w.2.1 p) rep (w.1 p) p with
            | none => exact ⟨rfl, hU, hP, hg, Nat.le_trans hl (by omega)⟩
            | some e =>
              have a := xTk_k 1 e (X i)
              have b := xTk_t (c := 1) (e := e) hg
              exact ⟨a.1, a.2.1.trans hU, by rw [a.2.2]; exact hP, b.1, Nat.le_trans b.2 (by omega)⟩
          have hC1 : kyC J1 (62 + 25 * i) (xK (X i)) := by rw [← ky.1]; exact (g2.2.2 (by omega)).2.1
          have cu1 : imC J1 5 p = w.2.1 p := by rw [imC_cg (g1 _ (by omega))]; exact cu
          have cm1 : imC J1 3 p = w.1 p := by rw [imC_cg (g1 _ (by omega))]; exact cm
          have rp1 : imC J1 18 0 = rep := by rw [imC_cg (g1 _ (by omega))]; exact hrJ
          refine c_mkg hB hk hC1 hp ?_ ?_
          · rw [cu1, cm1, rp1]
            intro hn
            refine ⟨fun _ => next J1 g1 ?_, fun z => absurd rfl z⟩
            rw [xt, hn, ← hy]
            exact g2
          · rw [cu1, cm1, rp1]
            intro e J2 hn k1 k2
            refine ⟨fun z => absurd z (by decide), fun _ => ⟨by omega, ?_⟩⟩
            refine callV_fl (as' := [.inr (2, (62 + 25 * i), 0), .inl (1, 0)]) rfl ?_
            refine c_takeMade hB (Or.inl rfl) ky.2.1 (ixC_fr (fun c c1 c2 => k1 c (by omega)) g2) ky.2.2.2.1 ky.2.2.2.2 ky.2.2.1 k2 ?_
            intro J3 m1 m2
            refine next J3 (fun c hc => by rw [m1 c hc, k1 c (by omega), g1 c hc]) ?_
            rw [xt, hn, ← hy]
            exact m2
        refine c_mkc hB hk hCJ hp ?_ ?_
        · rw [cu, cm, hrJ]
          intro hn
          refine ⟨fun _ => ⟨by omega, second J (X i) (fun _ _ => rfl) hxi (by rw [hn]; rfl)⟩, fun z => absurd rfl z⟩
        · rw [cu, cm, hrJ]
          intro e J1 hn k1 k2
          refine ⟨fun z => absurd z (by decide), fun _ => ⟨by omega, ?_⟩⟩
          refine callV_fl (as' := [.inr (2, (62 + 25 * i), 0), .inl (1, 1)]) rfl ?_
          refine c_takeMade hB (Or.inr rfl) hU (ixC_fr (fun c c1 c2 => k1 c (by omega)) hxi) hg (by omega) hP k2 ?_
          intro J2 m1 m2
          exact ⟨by omega, second J2 _ (fun c hc => by rw [m1 c hc, k1 c (by omega)]) m2 (by rw [hn]; rfl)⟩
  refine callV_fl (as' := [.inr (0, 0, 0), .inl (1, (p : Int))]) rfl ?_
  exact callV_of rfl (b_c_tellIndexes (inRn (by omega)) (loop 6 0 I (by omega) (fun _ _ => rfl) (fun j hj => absurd hj (by omega)) (fun j _ hj => hX j hj)))
/-- a place is written -/
def wRow (w : Rw) (p : Nat) (m : Im) (v : Int) : Rw := (w.1, upN w.2.1 p m, upN w.2.2 p v)
def sWrite (S : St) (t p : Nat) (m : Im) : St := (wRow (sW S) p m t, (sA S, upN (sR S) t (sR S t ++ [(p, (sW S).2.1 p, (sW S).2.2 p)])), fun i => xTell (wRow (sW S) p m t) ((sW S).2.1 p) p (sX S i), S.2.2.2)
/-- what is behind the class -/
def HFr (I J : Mm) : Prop := ∀ c, 212 ≤ c → J c = I c
set_option maxHeartbeats 4000000 in
theorem c_write {I : Mm} {K : Mm → Prop} {S : St} {t p fa fb : Nat} {m : Im} (hS : RSC I S) (ht : t < 8) (hp : p < 320) (ha : sA S t = 1) (hl : (sR S t).length < 200) (hm : imC I 16 0 = m) (hX : ∀ i, i < 6 → tlOK (sX S i))
    (hK : ∀ I' : Mm, HFr I I' → RSC I' (sWrite S t p m) → K I') : CallV 100 [.inr (0, 0, 0), .inl (fa, (t : Int)), .inl (fb, (p : Int))] I K := by
  obtain ⟨r1, r2, r3, r4, r5⟩ := hS
  obtain ⟨x1, x2⟩ := r2 t ht
  obtain ⟨x3, x4, x5⟩ := x2 (by omega)
  refine callV_fl (as' := [.inr (0, 0, 0), .inl (1, (t : Int)), .inl (1, (p : Int))]) rfl ?_
  refine callV_of rfl (b_c_write (inRn (by omega)) (inRn (by omega)) ?_)
  have wp : wr ((p : Int) * 5) = ((5 * p : Nat) : Int) := wrn _ (by omega) (by omega)
  simp only [Int.toNat_natCast, wp]
  rw [x3]
  refine ⟨by omega, fun _ => ⟨by omega, ?_⟩, fun z => absurd (by omega) z⟩
  rw [Int.toNat_natCast]
  intro I1 e1
  have s1 : rd I1 (22 + 5 * t) 1 = (sR S t).length := by rw [e1, rd_wt_a _ _ _ _ (by omega), x3]
  have w1 : rd I1 6 p = (sW S).2.2 p := by rw [e1, rd_wt_a _ _ _ _ (by omega)]; exact (r1 p hp).2.2
  rw [s1, w1, Int.toNat_natCast]
  refine ⟨by omega, by omega, ?_⟩
  intro I2 e2
  have s2 : rd I2 (22 + 5 * t) 1 = (sR S t).length := by rw [e2, rd_wt_a _ _ _ _ (by omega), s1]
  have wl : wr (((sR S t).length : Int) * 5) = ((5 * (sR S t).length : Nat) : Int) := wrn _ (by omega) (by omega)
  rw [s2, wl, Int.toNat_natCast]
  refine ⟨by omega, ?_⟩
  intro I3 e3
  have s3 : rd I3 (22 + 5 * t) 1 = (sR S t).length := by rw [e3, rd_cp_a _ _ _ _ _ _ (by omega), s2]
  rw [s3]
  intro I4 e4
  refine ⟨by omega, ?_⟩
  intro I5 e5
  refine ⟨by omega, ?_⟩
  intro I6 e6
  refine ⟨by omega, ?_⟩
  intro I7 e7
  have q4 : ∀ c, c ≠ 22 + 5 * t → c ≠ 22 + 5 * t + 1 → c ≠ 22 + 5 * t + 2 → c ≠ 22 + 5 * t + 4 → I4 c = I c := fun c c0 c1 c2 c4 => by rw [e4, wt_a _ _ _ _ c0, e3, cp_a _ _ _ _ _ _ c4, e2, wt_a _ _ _ _ c2, e1, wt_a _ _ _ _ c1]
  have c5 := imC_cp (I := I4) (J := I5) (a := 5) (b := 18) (p := p) (q := 0) (n := 0) e5 (by omega)
  have c6 := imC_cp (I := I5) (J := I6) (a := 16) (b := 5) (p := 0) (q := p) (n := 0) e6 (by omega)
  have c3 := imC_cp (I := I2) (J := I3) (a := 5) (b := 22 + 5 * t + 4) (p := p) (q := (sR S t).length) (n := 0) e3 (by omega)
  have q7 : ∀ c, c ≠ 5 → c ≠ 6 → c ≠ 18 → I7 c = I4 c := fun c k5 k6 k18 => by rw [e7, wt_a _ _ _ _ k6, c6.2.2 c k5, c5.2.2 c k18]
  have cuI : ∀ q, q < 320 → imC I 5 q = (sW S).2.1 q := fun q hq => (r1 q hq).2.1
  have row7 : RowC I7 1 (wRow (sW S) p m t) := by
    intro q hq
    refine ⟨?_, ?_, ?_⟩
    · rw [imC_cg (show I7 (1 + 2) = I (1 + 2) by rw [q7 _ (by omega) (by omega) (by omega), q4 _ (by omega) (by omega) (by omega) (by omega)])]
      exact (r1 q hq).1
    · rw [imC_cg (show I7 (1 + 4) = I6 (1 + 4) by rw [e7, wt_a _ _ _ _ (by omega)])]
      show imC I6 5 q = upN (sW S).2.1 p m q
      by_cases c : q = p
      · subst c
        rw [c6.1, upN_s, imC_cg (c5.2.2 16 (by omega)), imC_cg (q4 16 (by omega) (by omega) (by omega) (by omega)), hm]
      · rw [c6.2.1 q c, upN_o c, imC_cg (c5.2.2 5 (by omega)), imC_cg (q4 5 (by omega) (by omega) (by omega) (by omega)), cuI q hq]
    · show rd I7 6 q = upN (sW S).2.2 p (t : Int) q
      by_cases c : q = p
      · subst c
        rw [e7, rd_wt_s _ _ _ (inRn (by omega)), upN_s]
      · rw [e7, rd_wt_k _ _ _ _ c, upN_o c, rd_of (c6.2.2 6 (by omega)), rd_of (c5.2.2 6 (by omega)), rd_of (q4 6 (by omega) (by omega) (by omega) (by omega))]
        exact (r1 q hq).2.2
  have rep7 : imC I7 18 0 = (sW S).2.1 p := by
    rw [imC_cg (show I7 18 = I5 18 by rw [e7, wt_a _ _ _ _ (by omega), c6.2.2 _ (by omega)]), c5.1, imC_cg (q4 5 (by omega) (by omega) (by omega) (by omega)), cuI p hp]
  refine c_tell hp row7 rep7 (fun i hi => ixC_fr (fun c c1 c2 => by rw [q7 c (by omega) (by omega) (by omega), q4 c (by omega) (by omega) (by omega) (by omega)]) (r3 i hi)) hX ?_
  intro I8 g1 g2
  have g : ∀ c, c < 62 → c ≠ 5 → c ≠ 6 → c ≠ 18 → I8 c = I4 c := fun c hc k5 k6 k18 => by rw [g1 c (by omega), q7 c k5 k6 k18]
  refine hK I8 (fun c hc => by rw [g1 c (by omega), q7 c (by omega) (by omega) (by omega), q4 c (by omega) (by omega) (by omega) (by omega)]) ⟨rowC_cg (g1 _ (by omega)) (g1 _ (by omega)) (g1 _ (by omega)) row7, fun t' ht' => ?_, g2, bdC_cg (by rw [g _ (by omega) (by omega) (by omega) (by omega), q4 _ (by omega) (by omega) (by omega) (by omega)]) (by rw [g _ (by omega) (by omega) (by omega) (by omega), q4 _ (by omega) (by omega) (by omega) (by omega)]) r4, qsC_cg (by rw [g _ (by omega) (by omega) (by omega) (by omega), q4 _ (by omega) (by omega) (by omega) (by omega)]) (by rw [g _ (by omega) (by omega) (by omega) (by omega), q4 _ (by omega) (by omega) (by omega) (by omega)]) r5⟩
  show TxC I8 t' (sA S t') (upN (sR S) t (sR S t ++ [(p, (sW S).2.1 p, (sW S).2.2 p)]) t')
  by_cases c : t' = t
  · subst c
    rw [upN_s]
    have T0 : I8 (22 + 5 * t') = I4 (22 + 5 * t') := g _ (by omega) (by omega) (by omega) (by omega)
    refine ⟨by rw [rd_of T0, e4, rd_wt_k _ _ _ _ (by omega), e3, rd_cp_a _ _ _ _ _ _ (by omega), e2, rd_wt_a _ _ _ _ (by omega), e1, rd_wt_a _ _ _ _ (by omega)]; exact x1, fun _ => ⟨by rw [rd_of T0, e4, rd_wt_s _ _ _ ⟨by omega, by omega⟩]; simp, by simp; omega, fun j p' m' v' hj => ?_⟩⟩
    have T1 : ∀ j, rd I8 (22 + 5 * t' + 1) j = if j = (sR S t').length then (p : Int) else rd I (22 + 5 * t' + 1) j := fun j => by
      rw [rd_of (g _ (by omega) (by omega) (by omega) (by omega)), e4, rd_wt_a _ _ _ _ (by omega), e3, rd_cp_a _ _ _ _ _ _ (by omega), e2, rd_wt_a _ _ _ _ (by omega), e1, rd_wt, if_pos rfl, wrn p rfl (by omega)]
    have T2 : ∀ j, rd I8 (22 + 5 * t' + 2) j = if j = (sR S t').length then (sW S).2.2 p else rd I (22 + 5 * t' + 2) j := fun j => by
      rw [rd_of (g _ (by omega) (by omega) (by omega) (by omega)), e4, rd_wt_a _ _ _ _ (by omega), e3, rd_cp_a _ _ _ _ _ _ (by omega), e2, rd_wt, if_pos rfl, wr_of (by rw [← (r1 p hp).2.2]; exact rd_in _ _ _), e1, rd_wt_a _ _ _ _ (by omega)]
    have T4 : I8 (22 + 5 * t' + 4) = I3 (22 + 5 * t' + 4) := by rw [g _ (by omega) (by omega) (by omega) (by omega), e4, wt_a _ _ _ _ (by omega)]
    rw [T1, T2, imC_cg T4]
    by_cases cj : j < (sR S t').length
    · rw [List.getElem?_append_left cj] at hj
      rw [if_neg (by omega), if_neg (by omega), c3.2.1 j (by omega), imC_cg (show I2 (22 + 5 * t' + 4) = I (22 + 5 * t' + 4) by rw [e2, wt_a _ _ _ _ (by omega), e1, wt_a _ _ _ _ (by omega)])]
      exact x5 j p' m' v' hj
    · have ej : j = (sR S t').length := by
        have := (List.getElem?_eq_some_iff.mp hj).1
        simp at this
        omega
      subst ej
      simp at hj
      obtain ⟨rfl, rfl, rfl⟩ := hj
      rw [if_pos rfl, if_pos rfl, c3.1, imC_cg (show I2 5 = I 5 by rw [e2, wt_a _ _ _ _ (by omega), e1, wt_a _ _ _ _ (by omega)])]
      exact ⟨rfl, hp, rfl, cuI _ hp⟩
  · rw [upN_o c]
    exact txC_cg (fun c' h1 h2 => by rw [g c' (by omega) (by omega) (by omega) (by omega), q4 c' (by omega) (by omega) (by omega) (by omega)]) (r2 t' ht')
