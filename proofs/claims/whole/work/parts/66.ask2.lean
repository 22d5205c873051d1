/-! ANSWERS, class -/
def scA (w : Rw) (lo hi : Nat → Int) (t : Int) : Nat → Nat → List Int
  | 0, _ => []
  | d + 1, p => (if fitI lo hi (snI w t p) then [(p : Int)] else []) ++ scA w lo hi t d (p + 1)
theorem scA_le (w : Rw) (lo hi : Nat → Int) (t : Int) : ∀ d p, (scA w lo hi t d p).length ≤ d
  | 0, _ => Nat.le_refl _
  | d + 1, p => by
    have := scA_le w lo hi t d (p + 1)
    show ((if fitI lo hi (snI w t p) = true then [(p : Int)] else []) ++ scA w lo hi t d (p + 1)).length ≤ d + 1
    rw [List.length_append]
    have h1 : (if fitI lo hi (snI w t p) = true then [(p : Int)] else []).length ≤ 1 := by split <;> simp
    omega
/-- what has been told -/
def TdC (I J : Mm) (A : List Int) : Prop := (∀ k, k ≠ 9 → k ≠ 11 → rd J 0 k = rd I 0 k) ∧ rd J 0 9 = A.length ∧ ∀ (j : Nat) (v : Int), A[j]? = some v → rd J 21 j = v
theorem tdC_add {I J J2 J3 : Mm} {A : List Int} {v : Nat} (h : TdC I J A) (hv : v < 1000) (hl : A.length < 320) (e2 : J2 = wt J 21 A.length (v : Int)) (e3 : J3 = wt J2 0 9 ((A.length : Int) + 1)) : TdC I J3 (A ++ [(v : Int)]) ∧ rd J3 0 11 = rd J 0 11 ∧ ∀ c, c ≠ 0 → c ≠ 21 → J3 c = J c := by
  obtain ⟨a1, a2, a3⟩ := h
  refine ⟨⟨fun k k9 k11 => by rw [e3, rd_wt_k _ _ _ _ k9, e2, rd_wt_a _ _ _ _ (by omega), a1 k k9 k11], by rw [e3, rd_wt_s _ _ _ ⟨by omega, by omega⟩]; simp, fun j x hj => ?_⟩, by rw [e3, rd_wt_k _ _ _ _ (by omega), e2, rd_wt_a _ _ _ _ (by omega)], fun c c0 c1 => by rw [e3, wt_a _ _ _ _ c0, e2, wt_a _ _ _ _ c1]⟩
  by_cases cj : j < A.length
  · rw [List.getElem?_append_left cj] at hj
    rw [e3, rd_wt_a _ _ _ _ (by omega), e2, rd_wt_k _ _ _ _ (by omega)]
    exact a3 j x hj
  · have ej : j = A.length := by
      have := (List.getElem?_eq_some_iff.mp hj).1
      simp at this
      omega
    subst ej
    simp at hj
    rw [e3, rd_wt_a _ _ _ _ (by omega), e2, rd_wt_s _ _ _ (inRn (by omega)), hj]
set_option maxHeartbeats 2000000 in
theorem c_scan {I : Mm} {K : Mm → Prop} {S : St} {t : Int} (it : inR t) (hS : RSC I S) (h0 : rd I 0 9 = 0)
    (hK : ∀ J : Mm, (∀ c, c ≠ 0 → c ≠ 21 → J c = I c) → TdC I J (scA (sW S) (sLo S) (sHi S) t 320 0) → rd J 0 11 = 320 → K J) : CallV 123 [.inr (0, 0, 0), .inl (1, t)] I K := by
  have r1 := hS.1
  have tot := scA_le (sW S) (sLo S) (sHi S) t 320 0
  have loop : ∀ (d p : Nat) (A : List Int) (J : Mm), p + d = 320 → A.length ≤ p → (∀ c, c ≠ 0 → c ≠ 21 → J c = I c) → TdC I J A → rd J 0 11 = 320 → A ++ scA (sW S) (sLo S) (sHi S) t d p = scA (sW S) (sLo S) (sHi S) t 320 0 → GoA 123 9 [some (.inr (0, 0, 0)), some (.inl (1, t)), some (.inl (1, (p : Int)))] [] J (rV K) := by
    intro d
    induction d with
    | zero =>
      intro p A J hp hA f1 f2 f3 hs
      have hs : A ++ [] = _ := hs
      rw [List.append_nil] at hs
      refine b_c_answerByScan_9 it (inRn (by omega)) ⟨fun _ => ?_, fun z => absurd (by omega) z⟩
      rw [hs] at f2
      exact hK J f1 f2 f3
    | succ d ih =>
      intro p A J hp hA f1 f2 f3 hs
      have p3 : p < 320 := by omega
      have hs : A ++ ((if fitI (sLo S) (sHi S) (snI (sW S) t p) = true then [(p : Int)] else []) ++ scA (sW S) (sLo S) (sHi S) t d (p + 1)) = _ := hs
      have hb : BdC J (sLo S) (sHi S) := bdC_cg (f1 _ (by omega) (by omega)) (f1 _ (by omega) (by omega)) hS.2.2.2.1
      have one : ∀ (g : Nat), isG g → J (g + 1) = I (g + 1) → imC I (g + 1) p = snI (sW S) t p → CallZ 125 [.inr (0, 0, 0), .inr (4, g, 0), .inl (1, (p : Int))] J (fun x1 I1 => (x1 = 0 → ∀ v2_1, v2_1 = wr ((p : Int) + 1) → inR v2_1 → GoA 123 9 [some (.inr (0, 0, 0)), some (.inl (1, t)), some (.inl (1, v2_1))] [] I1 (rV K)) ∧ (¬ x1 = 0 → (320 ≤ rd I1 0 9 → ∀ v2_2, v2_2 = wr ((p : Int) + 1) → inR v2_2 → GoA 123 9 [some (.inr (0, 0, 0)), some (.inl (1, t)), some (.inl (1, v2_2))] [] I1 (rV K)) ∧ (¬ 320 ≤ rd I1 0 9 → (0 ≤ (rd I1 0 9) ∧ (rd I1 0 9) < 320) ∧ (∀ I2, I2 = wt I1 21 (rd I1 0 9).toNat (p : Int) → ∀ I3, I3 = wt I2 0 9 ((rd I2 0 9) + 1) → ∀ v2_3, v2_3 = wr ((p : Int) + 1) → inR v2_3 → GoA 123 9 [some (.inr (0, 0, 0)), some (.inl (1, t)), some (.inl (1, v2_3))] [] I3 (rV K))))) := by
        intro g hg hJ hm
        refine c_fits hg p3 hb (m := snI (sW S) t p) (by rw [imC_cg hJ]; exact hm) ?_
        cases hf : fitI (sLo S) (sHi S) (snI (sW S) t p) with
        | false =>
          rw [hf] at hs
          refine ⟨fun _ v2 e2 _ => ?_, fun z => absurd rfl z⟩
          rw [wrn (p + 1) (by omega) (by omega)] at e2
          subst e2
          exact ih (p + 1) A J (by omega) (by omega) f1 f2 f3 hs
        | true =>
          rw [hf] at hs
          refine ⟨fun z => absurd z (by decide), fun _ => ⟨fun z => absurd z (by rw [f2.2.1]; omega), fun _ => ?_⟩⟩
          rw [f2.2.1, Int.toNat_natCast]
          refine ⟨by omega, ?_⟩
          intro I2 e2 I3 e3 v2 ev2 _
          rw [wrn (p + 1) (by omega) (by omega)] at ev2
          subst ev2
          have r2 : rd I2 0 9 = A.length := by rw [e2, rd_wt_a _ _ _ _ (by omega), f2.2.1]
          rw [r2] at e3
          obtain ⟨k1, k2, k3⟩ := tdC_add f2 (by omega) (by omega) e2 e3
          refine ih (p + 1) (A ++ [(p : Int)]) I3 (by omega) (by rw [List.length_append]; simp; omega) (fun c c0 c1 => by rw [k3 c c0 c1, f1 c c0 c1]) k1 (by rw [k2, f3]) ?_
          rw [List.append_assoc]
          exact hs
      have cm := one 2 (Or.inl rfl) (f1 _ (by omega) (by omega))
      have cu := one 4 (Or.inr (Or.inl rfl)) (f1 _ (by omega) (by omega))
      have wv : rd J 6 p = (sW S).2.2 p := by rw [rd_of (f1 6 (by omega) (by omega))]; exact (r1 p p3).2.2
      refine b_c_answerByScan_9 it (inRn (by omega)) ⟨fun z => absurd z (by omega), fun _ => ⟨fun z => ?_, fun z => ⟨by omega, ?_⟩⟩⟩
      · refine callZ_fl (as' := [.inr (0, 0, 0), .inr (4, 2, 0), .inl (1, (p : Int))]) rfl ?_
        refine cm ?_
        unfold snI
        rw [if_neg (fun c => c.1 z)]
        exact (r1 p p3).1
      · rw [Int.toNat_natCast, wv]
        refine ⟨fun z2 => ?_, fun z2 => ?_⟩
        · refine callZ_fl (as' := [.inr (0, 0, 0), .inr (4, 4, 0), .inl (1, (p : Int))]) rfl ?_
          refine cu ?_
          unfold snI
          rw [if_pos ⟨z, z2⟩]
          exact (r1 p p3).2.1
        · refine callZ_fl (as' := [.inr (0, 0, 0), .inr (4, 2, 0), .inl (1, (p : Int))]) rfl ?_
          refine cm ?_
          unfold snI
          rw [if_neg (fun c => z2 c.2)]
          exact (r1 p p3).1
  refine callV_of rfl (b_c_answerByScan it ?_)
  intro I1 e1
  exact loop 320 0 [] I1 (by omega) (by simp) (fun c c0 _ => by rw [e1, wt_a _ _ _ _ c0]) ⟨fun k _ k11 => by rw [e1, rd_wt_k _ _ _ _ k11], by rw [e1, rd_wt_k _ _ _ _ (by omega), h0]; rfl, fun j v hj => by simp at hj⟩ (by rw [e1, rd_wt_s _ _ _ ⟨by omega, by omega⟩]) (List.nil_append _)
/-- the answers by an index -/
def ixOK (S : St) (i : Nat) (t : Int) (e : E) : Bool := rgE (xK (sX S i)) (sLo S) (sHi S) e (xK (sX S i)).1 0 && (hkE (xK (sX S i)) (snI (sW S) t e.2.2.2.toNat) e && fitI (sLo S) (sHi S) (snI (sW S) t e.2.2.2.toNat))
def ixA (S : St) (i : Nat) (t : Int) : List Int := ((lsT (xT (sX S i))).filter (ixOK S i t)).map (fun e => e.2.2.2)
set_option maxHeartbeats 4000000 in
theorem c_byIndex {I : Mm} {K : Mm → Prop} {S : St} {t : Int} {n : Nat} (it : inR t) (n6 : n < 6) (hS : RSC I S) (hU : xU (sX S n) = 1) (hk : kyOK (xK (sX S n))) (hg : good (xT (sX S n))) (hl : (lsT (xT (sX S n))).length ≤ 648) (hp : ∀ e ∈ lsT (xT (sX S n)), 0 ≤ e.2.2.2 ∧ e.2.2.2 < 320) (h320 : (ixA S n t).length ≤ 320) (h0 : rd I 0 9 = 0) (h1 : rd I 0 11 = 0)
    (hK : ∀ J : Mm, (∀ c, c ≠ 0 → c ≠ 21 → c ≠ 62 + 25 * n + 2 → c ≠ 62 + 25 * n + 10 → c ≠ 62 + 25 * n + 11 → c ≠ 62 + 25 * n + 12 → c ≠ 62 + 25 * n + 13 → J c = I c) → TreeC J (62 + 25 * n) (xT (sX S n)) → TdC I J (ixA S n t) → rd J 0 11 = ((rng S n : Nat) : Int) → K J) : CallV 124 [.inr (0, 0, 0), .inl (1, t), .inr (2, 62 + 25 * n, 0)] I K := by
  have r1 := hS.1
  have hx := hS.2.2.1 n n6
  obtain ⟨b1, b2, b3, b4, b5, b6, b7, b8⟩ := hx.2.2 (by omega)
  have rl := rng_le S n
  have hB := isX_i n6
  have loop : ∀ (d p : Nat) (J : Mm) (m4 m5 : Option AV), okO m4 → okO m5 → p + d = (lsT (xT (sX S n))).length → (∀ c, c ≠ 0 → c ≠ 21 → c ≠ 62 + 25 * n + 2 → c ≠ 62 + 25 * n + 10 → c ≠ 62 + 25 * n + 11 → c ≠ 62 + 25 * n + 12 → c ≠ 62 + 25 * n + 13 → J c = I c) → TreeC J (62 + 25 * n) (xT (sX S n)) → TdC I J ((((lsT (xT (sX S n))).take p).filter (ixOK S n t)).map (fun e => e.2.2.2)) → rd J 0 11 = (((((lsT (xT (sX S n))).take p).filter (fun e => rgE (xK (sX S n)) (sLo S) (sHi S) e (xK (sX S n)).1 0)).length : Nat) : Int) → GoA 124 2 [some (.inr (0, 0, 0)), some (.inl (1, t)), some (.inr (2, 62 + 25 * n, 0)), some (.inl (1, (p : Int))), m4, m5] [] J (rV K) := by
    intro d
    induction d with
    | zero =>
      intro p J m4 m5 o4 o5 hpd f1 f2 f3 f4
      have pl : p = (lsT (xT (sX S n))).length := by omega
      rw [pl, List.take_length] at f3 f4
      refine b_c_answerByIndex_2 hB it (inRn (by omega)) o4 o5 ⟨fun _ => hK J f1 f2 f3 f4, fun z => ?_⟩
      rw [c_size f2, wrx (by omega) (by omega)] at z
      exact absurd (by omega) z
    | succ d ih =>
      intro p J m4 m5 o4 o5 hpd f1 f2 f3 f4
      obtain ⟨e, he⟩ : ∃ e, (lsT (xT (sX S n)))[p]? = some e := ⟨_, List.getElem?_eq_getElem (by omega)⟩
      have hpe := hp e (List.mem_of_getElem? he)
      obtain ⟨pl, hpl⟩ : ∃ pl : Nat, e.2.2.2 = pl := ⟨e.2.2.2.toNat, by omega⟩
      have pl3 : pl < 320 := by omega
      have cell : ∀ J : Mm, (∀ c, c ≠ 0 → c ≠ 21 → c ≠ 62 + 25 * n + 2 → c ≠ 62 + 25 * n + 10 → c ≠ 62 + 25 * n + 11 → c ≠ 62 + 25 * n + 12 → c ≠ 62 + 25 * n + 13 → J c = I c) → ∀ c, 1 ≤ c → c ≠ 21 → (c < 62 ∨ c = 62 + 25 * n ∨ c = 62 + 25 * n + 1) → J c = I c := fun J f1 c c0 c1 c2 => f1 c (by omega) (by omega) (by omega) (by omega) (by omega) (by omega) (by omega)
      have ft := fun (f : E → Bool) => show ((lsT (xT (sX S n))).take (p + 1)).filter f = ((lsT (xT (sX S n))).take p).filter f ++ (if f e then [e] else []) by
        rw [List.take_add_one, he, List.filter_append]
        congr 1
        show List.filter f [e] = _
        rw [List.filter_cons, List.filter_nil]
      have tl : (((lsT (xT (sX S n))).take p).filter (fun e => rgE (xK (sX S n)) (sLo S) (sHi S) e (xK (sX S n)).1 0)).length ≤ p := by
        have := List.length_filter_le (fun e => rgE (xK (sX S n)) (sLo S) (sHi S) e (xK (sX S n)).1 0) ((lsT (xT (sX S n))).take p)
        rw [List.length_take] at this
        omega
      have hC : kyC J (62 + 25 * n) (xK (sX S n)) := kyC_cg (cell J f1 _ (by omega) (by omega) (by omega)) (cell J f1 _ (by omega) (by omega) (by omega)) b2
      have hb : BdC J (sLo S) (sHi S) := bdC_cg (cell J f1 _ (by omega) (by omega) (by omega)) (f1 _ (by omega) (by omega) (by omega) (by omega) (by omega) (by omega) (by omega)) hS.2.2.2.1
      -- the next one
      have next : ∀ (J' : Mm) (m4 m5 : Option AV), okO m4 → okO m5 → (∀ c, c ≠ 0 → c ≠ 21 → c ≠ 62 + 25 * n + 2 → c ≠ 62 + 25 * n + 10 → c ≠ 62 + 25 * n + 11 → c ≠ 62 + 25 * n + 12 → c ≠ 62 + 25 * n + 13 → J' c = I c) → TreeC J' (62 + 25 * n) (xT (sX S n)) → TdC I J' ((((lsT (xT (sX S n))).take (p + 1)).filter (ixOK S n t)).map (fun e => e.2.2.2)) → rd J' 0 11 = (((((lsT (xT (sX S n))).take (p + 1)).filter (fun e => rgE (xK (sX S n)) (sLo S) (sHi S) e (xK (sX S n)).1 0)).length : Nat) : Int) → ∀ v3, v3 = wr ((p : Int) + 1) → inR v3 → GoA 124 2 [some (.inr (0, 0, 0)), some (.inl (1, t)), some (.inr (2, 62 + 25 * n, 0)), some (.inl (1, v3)), m4, m5] [] J' (rV K) := by
        intro J' m4 m5 o4 o5 g1 g2 g3 g4 v3 e3 _
        rw [wrn (p + 1) (by omega) (by omega)] at e3
        subst e3
        exact ih (p + 1) J' m4 m5 o4 o5 (by omega) g1 g2 g3 g4
      refine b_c_answerByIndex_2 hB it (inRn (by omega)) o4 o5 ⟨fun z => ?_, fun _ => ?_⟩
      · rw [c_size f2, wrx (by omega) (by omega)] at z
        exact absurd z (by omega)
      refine c_inRange hB hk hC f2 hg hl he hb ?_
      intro J1 g1 g2
      have frW : ∀ {L M : Mm}, WFr L M (62 + 25 * n) → (∀ c, c ≠ 0 → c ≠ 21 → c ≠ 62 + 25 * n + 2 → c ≠ 62 + 25 * n + 10 → c ≠ 62 + 25 * n + 11 → c ≠ 62 + 25 * n + 12 → c ≠ 62 + 25 * n + 13 → L c = I c) → ∀ c, c ≠ 0 → c ≠ 21 → c ≠ 62 + 25 * n + 2 → c ≠ 62 + 25 * n + 10 → c ≠ 62 + 25 * n + 11 → c ≠ 62 + 25 * n + 12 → c ≠ 62 + 25 * n + 13 → M c = I c := fun hW hL c c0 c1 c2 c10 c11 c12 c13 => by rw [hW c c2 c10 c11 c12 c13, hL c c0 c1 c2 c10 c11 c12 c13]
      have tdW : ∀ {L M : Mm} {A : List Int}, WFr L M (62 + 25 * n) → TdC I L A → TdC I M A ∧ rd M 0 11 = rd L 0 11 := fun {L M A} hW h => by
        have e0 : M 0 = L 0 := hW _ (by omega) (by omega) (by omega) (by omega) (by omega)
        have e1 : M 21 = L 21 := hW _ (by omega) (by omega) (by omega) (by omega) (by omega)
        exact ⟨⟨fun k k9 k11 => by rw [rd_of e0]; exact h.1 k k9 k11, by rw [rd_of e0]; exact h.2.1, fun j v hj => by rw [rd_of e1]; exact h.2.2 j v hj⟩, rd_of e0 11⟩
      cases hr : rgE (xK (sX S n)) (sLo S) (sHi S) e (xK (sX S n)).1 0 with
      | false =>
        have hno : ixOK S n t e = false := by unfold ixOK; rw [hr, Bool.false_and]
        refine ⟨fun _ => ?_, fun z => absurd rfl z⟩
        refine next J1 m4 m5 o4 o5 (frW g1 f1) g2 ?_ ?_
        · rw [ft, hno, if_neg (by decide), List.append_nil]
          exact (tdW g1 f3).1
        · rw [ft, hr, if_neg (by decide), List.append_nil, (tdW g1 f3).2]
          exact f4
      | true =>
        refine ⟨fun z => absurd z (by decide), fun _ => ?_⟩
        intro J2 e2
        have look2 : rd J2 0 11 = (((((lsT (xT (sX S n))).take (p + 1)).filter (fun e => rgE (xK (sX S n)) (sLo S) (sHi S) e (xK (sX S n)).1 0)).length : Nat) : Int) := by
          rw [e2, (tdW g1 f3).2, f4, rd_wt_s _ _ _ ⟨by omega, by omega⟩, ft, hr, if_pos rfl, List.length_append]
          rfl
        have f2' : ∀ c, c ≠ 0 → c ≠ 21 → c ≠ 62 + 25 * n + 2 → c ≠ 62 + 25 * n + 10 → c ≠ 62 + 25 * n + 11 → c ≠ 62 + 25 * n + 12 → c ≠ 62 + 25 * n + 13 → J2 c = I c := fun c c0 c1 c2 c10 c11 c12 c13 => by rw [e2, wt_a _ _ _ _ c0, frW g1 f1 c c0 c1 c2 c10 c11 c12 c13]
        have td2 : TdC I J2 ((((lsT (xT (sX S n))).take p).filter (ixOK S n t)).map (fun e => e.2.2.2)) := by
          have h := (tdW g1 f3).1
          exact ⟨fun k k9 k11 => by rw [e2, rd_wt_k _ _ _ _ k11]; exact h.1 k k9 k11, by rw [e2, rd_wt_k _ _ _ _ (by omega)]; exact h.2.1, fun j v hj => by rw [e2, rd_wt_a _ _ _ _ (by omega)]; exact h.2.2 j v hj⟩
        have tr2 : TreeC J2 (62 + 25 * n) (xT (sX S n)) := treeC_fr (fun c c1 c2 => by rw [e2, wt_a _ _ _ _ (by omega)]) g2
        refine callZ_fl (as' := [.inr (2, 62 + 25 * n, 2), .inl (1, (p : Int)), .inl (1, ((3 : Nat) : Int))]) rfl ?_
        refine c_wordAt hB tr2 hg hl he (by omega) ?_
        intro J3 k1 k2 v4 e4 i4
        have : ew e 3 = (pl : Int) := hpl
        rw [this] at e4
        subst e4
        have f3' := frW k1 f2'
        have td3 := tdW k1 td2
        have okp : okO (some (.inl (1, (pl : Int)))) := okO_s (okF_1 i4 1)
        have plt : e.2.2.2.toNat = pl := by omega
        have body : ∀ (g : Nat), (g = 2 ∨ g = 4) → imC I (g + 1) pl = snI (sW S) t pl → CallZ 20 [.inr (2, 62 + 25 * n, 0), .inl (1, (p : Int)), .inr (4, g, 0)] J3 (fun x3 I4 => (x3 = 0 → ∀ v3_3, v3_3 = wr ((p : Int) + 1) → inR v3_3 → GoA 124 2 [some (.inr (0, 0, 0)), some (.inl (1, t)), some (.inr (2, 62 + 25 * n, 0)), some (.inl (1, v3_3)), some (.inl (1, (pl : Int))), some (.inr (0, 0, g))] [] I4 (rV K)) ∧ (¬ x3 = 0 → CallZ 125 [.inr (0, 0, 0), .inr (0, 0, g), .inl (1, (pl : Int))] I4 (fun x4 I5 => (x4 = 0 → ∀ v3_4, v3_4 = wr ((p : Int) + 1) → inR v3_4 → GoA 124 2 [some (.inr (0, 0, 0)), some (.inl (1, t)), some (.inr (2, 62 + 25 * n, 0)), some (.inl (1, v3_4)), some (.inl (1, (pl : Int))), some (.inr (0, 0, g))] [] I5 (rV K)) ∧ (¬ x4 = 0 → (320 ≤ rd I5 0 9 → ∀ v3_5, v3_5 = wr ((p : Int) + 1) → inR v3_5 → GoA 124 2 [some (.inr (0, 0, 0)), some (.inl (1, t)), some (.inr (2, 62 + 25 * n, 0)), some (.inl (1, v3_5)), some (.inl (1, (pl : Int))), some (.inr (0, 0, g))] [] I5 (rV K)) ∧ (¬ 320 ≤ rd I5 0 9 → (0 ≤ (rd I5 0 9) ∧ (rd I5 0 9) < 320) ∧ (∀ I6, I6 = wt I5 21 (rd I5 0 9).toNat (pl : Int) → ∀ I7, I7 = wt I6 0 9 ((rd I6 0 9) + 1) → ∀ v3_6, v3_6 = wr ((p : Int) + 1) → inR v3_6 → GoA 124 2 [some (.inr (0, 0, 0)), some (.inl (1, t)), some (.inr (2, 62 + 25 * n, 0)), some (.inl (1, v3_6)), some (.inl (1, (pl : Int))), some (.inr (0, 0, g))] [] I7 (rV K))))))) := by
          intro g hgg hm
          have isg : isG g := by unfold isG; omega
          have okg : okO (some (.inr (0, 0, g))) := by rcases hgg with rfl | rfl <;> exact okO_s (okF_A (by decide))
          have hC3 : kyC J3 (62 + 25 * n) (xK (sX S n)) := kyC_cg (cell J3 f3' _ (by omega) (by omega) (by omega)) (cell J3 f3' _ (by omega) (by omega) (by omega)) b2
          have im3 : imC J3 (g + 1) pl = snI (sW S) t pl := by rw [imC_cg (cell J3 f3' _ (by omega) (by omega) (by omega))]; exact hm
          refine c_hko hB isg hk hC3 k2 hg hl he hpl pl3 ?_
          intro J4 m1 m2
          rw [im3]
          have f4' := frW m1 f3'
          have td4 := tdW m1 td3.1
          have look4 : rd J4 0 11 = (((((lsT (xT (sX S n))).take (p + 1)).filter (fun e => rgE (xK (sX S n)) (sLo S) (sHi S) e (xK (sX S n)).1 0)).length : Nat) : Int) := by rw [td4.2, td3.2, look2]
          have skip : ixOK S n t e = false → ∀ v3, v3 = wr ((p : Int) + 1) → inR v3 → GoA 124 2 [some (.inr (0, 0, 0)), some (.inl (1, t)), some (.inr (2, 62 + 25 * n, 0)), some (.inl (1, v3)), some (.inl (1, (pl : Int))), some (.inr (0, 0, g))] [] J4 (rV K) := by
            intro hno
            refine next J4 _ _ okp okg f4' m2 ?_ look4
            rw [ft, hno, if_neg (by decide), List.append_nil]
            exact td4.1
          cases hh : hkE (xK (sX S n)) (snI (sW S) t pl) e with
          | false => exact ⟨fun _ => skip (by unfold ixOK; rw [plt, hh, Bool.false_and, Bool.and_false]), fun z => absurd rfl z⟩
          | true =>
            refine ⟨fun z => absurd z (by decide), fun _ => ?_⟩
            have hb4 : BdC J4 (sLo S) (sHi S) := bdC_cg (cell J4 f4' _ (by omega) (by omega) (by omega)) (f4' _ (by omega) (by omega) (by omega) (by omega) (by omega) (by omega) (by omega)) hS.2.2.2.1
            have im4 : imC J4 (g + 1) pl = snI (sW S) t pl := by rw [imC_cg (cell J4 f4' _ (by omega) (by omega) (by omega))]; exact hm
            have ff : CallZ 125 [.inr (0, 0, 0), .inr (4, g, 0), .inl (1, (pl : Int))] J4 (fun x4 I5 => (x4 = 0 → ∀ v3_4, v3_4 = wr ((p : Int) + 1) → inR v3_4 → GoA 124 2 [some (.inr (0, 0, 0)), some (.inl (1, t)), some (.inr (2, 62 + 25 * n, 0)), some (.inl (1, v3_4)), some (.inl (1, (pl : Int))), some (.inr (0, 0, g))] [] I5 (rV K)) ∧ (¬ x4 = 0 → (320 ≤ rd I5 0 9 → ∀ v3_5, v3_5 = wr ((p : Int) + 1) → inR v3_5 → GoA 124 2 [some (.inr (0, 0, 0)), some (.inl (1, t)), some (.inr (2, 62 + 25 * n, 0)), some (.inl (1, v3_5)), some (.inl (1, (pl : Int))), some (.inr (0, 0, g))] [] I5 (rV K)) ∧ (¬ 320 ≤ rd I5 0 9 → (0 ≤ (rd I5 0 9) ∧ (rd I5 0 9) < 320) ∧ (∀ I6, I6 = wt I5 21 (rd I5 0 9).toNat (pl : Int) → ∀ I7, I7 = wt I6 0 9 ((rd I6 0 9) + 1) → ∀ v3_6, v3_6 = wr ((p : Int) + 1) → inR v3_6 → GoA 124 2 [some (.inr (0, 0, 0)), some (.inl (1, t)), some (.inr (2, 62 + 25 * n, 0)), some (.inl (1, v3_6)), some (.inl (1, (pl : Int))), some (.inr (0, 0, g))] [] I7 (rV K))))) := by
              refine c_fits isg pl3 hb4 im4 ?_
              cases hf : fitI (sLo S) (sHi S) (snI (sW S) t pl) with
              | false => exact ⟨fun _ => skip (by unfold ixOK; rw [plt, hf, Bool.and_false, Bool.and_false]), fun z => absurd rfl z⟩
              | true =>
                have hyes : ixOK S n t e = true := by unfold ixOK; rw [plt, hr, hh, hf]; rfl
                have room : ((((lsT (xT (sX S n))).take p).filter (ixOK S n t)).map (fun e => e.2.2.2)).length + 1 ≤ 320 := by
                  have e1 : (((lsT (xT (sX S n))).take (p + 1)).filter (ixOK S n t)).length ≤ (ixA S n t).length := by
                    unfold ixA
                    rw [List.length_map]
                    exact (List.Sublist.filter _ (List.take_sublist _ _)).length_le
                  rw [ft, hyes, if_pos rfl, List.length_append] at e1
                  rw [List.length_map]
                  simp at e1
                  omega
                refine ⟨fun z => absurd z (by decide), fun _ => ⟨fun z => absurd z (by rw [td4.1.2.1]; omega), fun _ => ?_⟩⟩
                rw [td4.1.2.1, Int.toNat_natCast]
                refine ⟨by omega, ?_⟩
                intro J6 e6 J7 e7
                have r6 : rd J6 0 9 = ((((((lsT (xT (sX S n))).take p).filter (ixOK S n t)).map (fun e => e.2.2.2)).length : Nat) : Int) := by rw [e6, rd_wt_a _ _ _ _ (by omega), td4.1.2.1]
                rw [r6] at e7
                obtain ⟨a1, a2, a3⟩ := tdC_add td4.1 (by omega) (by omega) e6 e7
                refine next J7 _ _ okp okg (fun c c0 c1 c2 c10 c11 c12 c13 => by rw [a3 c c0 c1, f4' c c0 c1 c2 c10 c11 c12 c13]) (treeC_fr (fun c c1 c2 => a3 c (by omega) (by omega)) m2) ?_ (by rw [a2, look4])
                rw [ft, hyes, if_pos rfl, List.map_append, List.map_cons, List.map_nil, hpl]
                exact a1
            rcases hgg with rfl | rfl
            · exact callZ_fl (as' := [.inr (0, 0, 0), .inr (4, 2, 0), .inl (1, (pl : Int))]) rfl ff
            · exact callZ_fl (as' := [.inr (0, 0, 0), .inr (4, 4, 0), .inl (1, (pl : Int))]) rfl ff
        have wv : rd J3 6 pl = (sW S).2.2 pl := by rw [rd_of (cell J3 f3' 6 (by omega) (by omega) (by omega))]; exact (r1 pl pl3).2.2
        have bm := body 2 (Or.inl rfl)
        have bu := body 4 (Or.inr rfl)
        unfold snI at bm bu
        refine ⟨fun z => ?_, fun z => ⟨by omega, ?_⟩⟩
        · rw [if_neg (fun c => c.1 z)] at bm
          exact callZ_fl (as' := [.inr (2, 62 + 25 * n, 0), .inl (1, (p : Int)), .inr (4, 2, 0)]) rfl (bm (r1 pl pl3).1)
        · rw [Int.toNat_natCast, wv]
          refine ⟨fun z2 => ?_, fun z2 => ?_⟩
          · rw [if_pos ⟨z, z2⟩] at bu
            exact callZ_fl (as' := [.inr (2, 62 + 25 * n, 0), .inl (1, (p : Int)), .inr (4, 4, 0)]) rfl (bu (r1 pl pl3).2.1)
          · rw [if_neg (fun c => z2 c.2)] at bm
            exact callZ_fl (as' := [.inr (2, 62 + 25 * n, 0), .inl (1, (p : Int)), .inr (4, 2, 0)]) rfl (bm (r1 pl pl3).1)
  refine callV_of rfl (b_c_answerByIndex hB it ?_)
  exact loop (lsT (xT (sX S n))).length 0 I none none okO_n okO_n (by omega) (fun _ _ _ _ _ _ _ _ => rfl) b6 ⟨fun _ _ _ => rfl, by rw [h0]; rfl, fun j v hj => by simp at hj⟩ (by rw [h1]; rfl)
