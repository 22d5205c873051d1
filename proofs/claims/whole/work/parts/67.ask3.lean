/-! ASK, class -/
def sSetQ (S : St) (q : List Int × Int × Int) : St := (S.1, S.2.1, S.2.2.1, S.2.2.2.1, q)
def wy (S : St) (w : Int) : Nat := if w = -1 then chL S 6 0 0 else w.toNat
def toldQ (S : St) (t : Int) (n : Nat) : List Int × Int × Int := if n = 0 then (scA (sW S) (sLo S) (sHi S) t 320 0, 0, 320) else (ixA S (n - 1) t, (n : Int), ((rng S (n - 1) : Nat) : Int))
def oAsk (S : St) (t w : Int) : Int × St := if ¬ seer S t then (-101, S) else if w < -1 ∨ 6 < w then (-102, S) else if 0 < w ∧ rdy (sX S (w.toNat - 1)) = false then (-101, S) else (((toldQ S t (wy S w)).1.length : Int), sSetQ S (toldQ S t (wy S w)))
def SQK (S : St) : Prop := ∀ i, i < 6 → rdy (sX S i) = true → (∀ e ∈ lsT (xT (sX S i)), 0 ≤ e.2.2.2 ∧ e.2.2.2 < 320) ∧ ∀ t, seer S t → (ixA S i t).length ≤ 320
theorem rsc_q {I J : Mm} {S : St} {q : List Int × Int × Int} (h : ∀ c, c < 212 → c ≠ 0 → c ≠ 21 → J c = I c) (hq : QsC J q) (hS : RSC I S) : RSC J (sSetQ S q) := by
  obtain ⟨r1, r2, r3, r4, r5⟩ := hS
  exact ⟨rowC_cg (h _ (by omega) (by omega) (by omega)) (h _ (by omega) (by omega) (by omega)) (h _ (by omega) (by omega) (by omega)) r1, fun t ht => txC_cg (fun c h1 h2 => h c (by omega) (by omega) (by omega)) (r2 t ht), fun i hi => ixC_fr (fun c h1 h2 => h c (by omega) (by omega) (by omega)) (r3 i hi), bdC_cg (h _ (by omega) (by omega) (by omega)) (h _ (by omega) (by omega) (by omega)) r4, hq⟩
set_option maxHeartbeats 4000000 in
theorem c_ask {I : Mm} {K : Int → Mm → Prop} {S : St} {t w : Int} (it : inR t) (iw : inR w) (hS : RSC I S) (hO : SOK S) (hQ : SQK S)
    (hK : ∀ I' : Mm, HFr I I' → RSC I' (oAsk S t w).2 → K (oAsk S t w).1 I') : CallZ 115 [.inr (0, 0, 0), .inl (1, t), .inl (1, w)] I K := by
  have tail : seer S t → ∀ (J : Mm) (n : Nat), (w = -1 → n = chL S 6 0 0) → (¬ w = -1 → 0 ≤ w ∧ n = w.toNat) → w ≤ 6 → n ≤ 6 → (n = 0 ∨ rdy (sX S (n - 1)) = true) → HFr I J → RSC J S → ∀ x : Int, x = n → ∀ I7, I7 = wt J 0 10 x → ∀ I8, I8 = wt I7 0 9 0 → ∀ I9, I9 = wt I8 0 11 0 → (rd I9 0 10 = 0 → CallV 123 [.inr (0, 0, 0), .inl (1, t)] I9 (fun I11 => (rZ K) (some (.inl (1, rd I11 0 9))) I11)) ∧ (¬ rd I9 0 10 = 0 → (0 ≤ (wr ((rd I9 0 10) - 1)) ∧ (wr ((rd I9 0 10) - 1)) < 6) ∧ (CallV 124 [.inr (0, 0, 0), .inl (1, t), .inr (2, (62 + 25 * (wr ((rd I9 0 10) - 1)).toNat), 0)] I9 (fun I10 => (rZ K) (some (.inl (1, rd I10 0 9))) I10))) := by
    intro hs J n w1 w2 w6 n6 hr hF hJ x hx I7 e7 I8 e8 I9 e9
    have ew : wy S w = n := by
      unfold wy
      by_cases c : w = -1
      · rw [if_pos c, w1 c]
      · rw [if_neg c, (w2 c).2]
    have eA : oAsk S t w = (((toldQ S t n).1.length : Int), sSetQ S (toldQ S t n)) := by
      unfold oAsk
      rw [if_neg (fun c => c hs), if_neg, if_neg, ew]
      · intro ⟨c1, c2⟩
        have := w2 (by omega)
        rcases hr with r | r
        · omega
        · rw [← this.2] at c2; rw [r] at c2; exact absurd c2 (by decide)
      · by_cases c : w = -1
        · omega
        · have := w2 c; omega
    rw [eA] at hK
    have f9 : ∀ c, c ≠ 0 → I9 c = J c := fun c hc => by rw [e9, wt_a _ _ _ _ hc, e8, wt_a _ _ _ _ hc, e7, wt_a _ _ _ _ hc]
    have v10 : rd I9 0 10 = n := by rw [e9, rd_wt_k _ _ _ _ (by omega), e8, rd_wt_k _ _ _ _ (by omega), e7, hx, rd_wt_s _ _ _ (inRn (by omega))]
    have v9 : rd I9 0 9 = 0 := by rw [e9, rd_wt_k _ _ _ _ (by omega), e8, rd_wt_s _ _ _ ⟨by omega, by omega⟩]
    have v11 : rd I9 0 11 = 0 := by rw [e9, rd_wt_s _ _ _ ⟨by omega, by omega⟩]
    rw [v10]
    refine ⟨fun z => ?_, fun z => ?_⟩
    · have n0 : n = 0 := by omega
      subst n0
      have h9 : RSC I9 (sSetQ S ([], 0, 0)) := rsc_q (fun c _ c0 _ => f9 c c0) ⟨⟨v9, by simp, fun j v hj => by simp at hj⟩, v10, v11⟩ hJ
      refine c_scan (S := sSetQ S ([], 0, 0)) it h9 v9 ?_
      intro L f1 ⟨f2, f3, f4⟩ f5
      show K (rd L 0 9) L
      rw [f3]
      refine hK L (fun c hc => by rw [f1 c (by omega) (by omega), f9 c (by omega), hF c hc]) ?_
      exact rsc_q (fun c c1 c2 c3 => by rw [f1 c c2 c3, f9 c c2]) ⟨⟨f3, scA_le _ _ _ _ _ _, f4⟩, by rw [f2 10 (by omega) (by omega), v10]; rfl, f5⟩ hJ
    · obtain ⟨m, hm⟩ : ∃ m : Nat, n = m + 1 := ⟨n - 1, by omega⟩
      subst hm
      have m6 : m < 6 := by omega
      have e1 : wr (((m + 1 : Nat) : Int) - 1) = m := by rw [wrx (by omega) (by omega)]; omega
      rw [e1, Int.toNat_natCast]
      refine ⟨by omega, ?_⟩
      have hr1 : rdy (sX S m) = true := by
        rcases hr with r | r
        · omega
        · exact r
      have hU0 : ¬ xU (sX S m) = 0 := by unfold rdy at hr1; exact (of_decide_eq_true hr1).1
      rcases hO.2.1 m m6 with a | ⟨u, k1, g1, l1, p1⟩
      · exact absurd a hU0
      have h9 : RSC I9 (sSetQ S ([], ((m + 1 : Nat) : Int), 0)) := rsc_q (fun c _ c0 _ => f9 c c0) ⟨⟨v9, by simp, fun j v hj => by simp at hj⟩, v10, v11⟩ hJ
      refine c_byIndex (S := sSetQ S ([], ((m + 1 : Nat) : Int), 0)) (n := m) it m6 h9 u k1 g1 (Nat.le_trans l1 (by omega)) (hQ m m6 hr1).1 ((hQ m m6 hr1).2 t hs) v9 v11 ?_
      intro L f1 fT ⟨f2, f3, f4⟩ f5
      show K (rd L 0 9) L
      rw [f3]
      refine hK L (fun c hc => by rw [f1 c (by omega) (by omega) (by omega) (by omega) (by omega) (by omega) (by omega), f9 c (by omega), hF c hc]) ?_
      -- first the index, then the rest
      have g1' : RSC (fun c => if c = 0 then J 0 else if c = 21 then J 21 else L c) S := by
        refine (rsc_w m6 u (I := J) (fun c c2 c10 c11 c12 c13 => ?_) (treeC_fr (fun c h1 h2 => ?_) fT) hJ).1
        · by_cases c0 : c = 0
          · subst c0; exact if_pos rfl
          · by_cases c1 : c = 21
            · subst c1; rw [if_neg c0]; exact if_pos rfl
            · rw [if_neg c0, if_neg c1, f1 c c0 c1 c2 c10 c11 c12 c13, f9 c c0]
        · show (if c = 0 then J 0 else if c = 21 then J 21 else L c) = L c
          rw [if_neg (by omega), if_neg (by omega)]
      exact rsc_q (q := toldQ S t (m + 1)) (fun c c1 c2 c3 => by show L c = if c = 0 then J 0 else if c = 21 then J 21 else L c; rw [if_neg c2, if_neg c3]) ⟨⟨f3, (hQ m m6 hr1).2 t hs, f4⟩, by rw [f2 10 (by omega) (by omega), v10]; rfl, f5⟩ g1'
  have ch : seer S t → w = -1 → CallZ 120 [.inr (0, 0, 0)] I (fun x1 I6 => ∀ I7, I7 = wt I6 0 10 x1 → ∀ I8, I8 = wt I7 0 9 0 → ∀ I9, I9 = wt I8 0 11 0 → (rd I9 0 10 = 0 → CallV 123 [.inr (0, 0, 0), .inl (1, t)] I9 (fun I11 => (rZ K) (some (.inl (1, rd I11 0 9))) I11)) ∧ (¬ rd I9 0 10 = 0 → (0 ≤ (wr ((rd I9 0 10) - 1)) ∧ (wr ((rd I9 0 10) - 1)) < 6) ∧ (CallV 124 [.inr (0, 0, 0), .inl (1, t), .inr (2, (62 + 25 * (wr ((rd I9 0 10) - 1)).toNat), 0)] I9 (fun I10 => (rZ K) (some (.inl (1, rd I10 0 9))) I10)))) := fun hs hw => by
    refine c_cheapest hS hO ?_
    intro J hF hJ h6 hr
    exact tail hs J _ (fun _ => rfl) (fun z => absurd hw z) (by omega) h6 hr hF hJ _ rfl
  have out : ∀ v : Int, (oAsk S t w) = (v, S) → K v I := fun v e => by
    rw [e] at hK
    exact hK I (fun _ _ => rfl) hS
  have o102 : seer S t → (w < -1 ∨ 6 < w) → K (-102) I := fun hs hw => out _ (by unfold oAsk; rw [if_neg (fun c => c hs), if_pos hw])
  have o101 : ¬ seer S t → K (-101) I := fun hs => out _ (by unfold oAsk; rw [if_pos hs])
  have inner : seer S t → (w < (-1) → (rZ K) (some (.inl (2, (-102)))) I) ∧ (¬ w < (-1) → (w ≤ 6 → (w ≤ 0 → (w = (-1) → CallZ 120 [.inr (0, 0, 0)] I (fun x1 I6 => ∀ I7, I7 = wt I6 0 10 x1 → ∀ I8, I8 = wt I7 0 9 0 → ∀ I9, I9 = wt I8 0 11 0 → (rd I9 0 10 = 0 → CallV 123 [.inr (0, 0, 0), .inl (1, t)] I9 (fun I11 => (rZ K) (some (.inl (1, rd I11 0 9))) I11)) ∧ (¬ rd I9 0 10 = 0 → (0 ≤ (wr ((rd I9 0 10) - 1)) ∧ (wr ((rd I9 0 10) - 1)) < 6) ∧ (CallV 124 [.inr (0, 0, 0), .inl (1, t), .inr (2, (62 + 25 * (wr ((rd I9 0 10) - 1)).toNat), 0)] I9 (fun I10 => (rZ K) (some (.inl (1, rd I10 0 9))) I10))))) ∧ (¬ w = (-1) → ∀ I1, I1 = wt I 0 10 w → ∀ I2, I2 = wt I1 0 9 0 → ∀ I3, I3 = wt I2 0 11 0 → (rd I3 0 10 = 0 → CallV 123 [.inr (0, 0, 0), .inl (1, t)] I3 (fun I5 => (rZ K) (some (.inl (1, rd I5 0 9))) I5)) ∧ (¬ rd I3 0 10 = 0 → (0 ≤ (wr ((rd I3 0 10) - 1)) ∧ (wr ((rd I3 0 10) - 1)) < 6) ∧ (CallV 124 [.inr (0, 0, 0), .inl (1, t), .inr (2, (62 + 25 * (wr ((rd I3 0 10) - 1)).toNat), 0)] I3 (fun I4 => (rZ K) (some (.inl (1, rd I4 0 9))) I4))))) ∧ (¬ w ≤ 0 → (wr (w - 1) < 0 → (rZ K) (some (.inl (2, (-101)))) I) ∧ (¬ wr (w - 1) < 0 → (6 ≤ wr (w - 1) → (rZ K) (some (.inl (2, (-101)))) I) ∧ (¬ 6 ≤ wr (w - 1) → (0 ≤ (wr (w - 1)) ∧ (wr (w - 1)) < 6) ∧ ((rd I (62 + 25 * (wr (w - 1)).toNat) 0 = 0 → (rZ K) (some (.inl (2, (-101)))) I) ∧ (¬ rd I (62 + 25 * (wr (w - 1)).toNat) 0 = 0 → (0 ≤ (wr (w - 1)) ∧ (wr (w - 1)) < 6) ∧ ((rd I (62 + 25 * (wr (w - 1)).toNat) 4 = 4 → (w = (-1) → CallZ 120 [.inr (0, 0, 0)] I (fun x2 I17 => ∀ I18, I18 = wt I17 0 10 x2 → ∀ I19, I19 = wt I18 0 9 0 → ∀ I20, I20 = wt I19 0 11 0 → (rd I20 0 10 = 0 → CallV 123 [.inr (0, 0, 0), .inl (1, t)] I20 (fun I22 => (rZ K) (some (.inl (1, rd I22 0 9))) I22)) ∧ (¬ rd I20 0 10 = 0 → (0 ≤ (wr ((rd I20 0 10) - 1)) ∧ (wr ((rd I20 0 10) - 1)) < 6) ∧ (CallV 124 [.inr (0, 0, 0), .inl (1, t), .inr (2, (62 + 25 * (wr ((rd I20 0 10) - 1)).toNat), 0)] I20 (fun I21 => (rZ K) (some (.inl (1, rd I21 0 9))) I21))))) ∧ (¬ w = (-1) → ∀ I12, I12 = wt I 0 10 w → ∀ I13, I13 = wt I12 0 9 0 → ∀ I14, I14 = wt I13 0 11 0 → (rd I14 0 10 = 0 → CallV 123 [.inr (0, 0, 0), .inl (1, t)] I14 (fun I16 => (rZ K) (some (.inl (1, rd I16 0 9))) I16)) ∧ (¬ rd I14 0 10 = 0 → (0 ≤ (wr ((rd I14 0 10) - 1)) ∧ (wr ((rd I14 0 10) - 1)) < 6) ∧ (CallV 124 [.inr (0, 0, 0), .inl (1, t), .inr (2, (62 + 25 * (wr ((rd I14 0 10) - 1)).toNat), 0)] I14 (fun I15 => (rZ K) (some (.inl (1, rd I15 0 9))) I15))))) ∧ (¬ rd I (62 + 25 * (wr (w - 1)).toNat) 4 = 4 → (rZ K) (some (.inl (2, (-101)))) I)))))))) ∧ (¬ w ≤ 6 → (rZ K) (some (.inl (2, (-102)))) I)) := by
    intro hs
    refine ⟨fun z => o102 hs (Or.inl z), fun z1 => ⟨fun z6 => ⟨fun z0 => ⟨ch hs, fun zn => ?_⟩, fun z0 => ?_⟩, fun z => o102 hs (Or.inr (by omega))⟩⟩
    · exact tail hs I 0 (fun z => absurd z zn) (fun _ => ⟨by omega, by omega⟩) z6 (by omega) (Or.inl rfl) (fun _ _ => rfl) hS w (by omega)
    · obtain ⟨m, hm⟩ : ∃ m : Nat, w = ((m + 1 : Nat) : Int) := ⟨(w - 1).toNat, by omega⟩
      have e1 : wr (w - 1) = m := by rw [wrx (by omega) (by omega)]; omega
      have m6 : m < 6 := by omega
      rw [e1, Int.toNat_natCast]
      have hx := hS.2.2.1 m m6
      have no : rdy (sX S m) = false → K (-101) I := fun hr => out _ (by
        unfold oAsk
        rw [if_neg (fun c => c hs), if_neg (by omega), if_pos ⟨by omega, by rw [hm, Int.toNat_natCast]; exact hr⟩])
      refine ⟨fun z => absurd z (by omega), fun _ => ⟨fun z => absurd z (by omega), fun _ => ⟨by omega, fun z => no ?_, fun z => ⟨by omega, fun y => ⟨ch hs, fun zn => ?_⟩, fun y => no ?_⟩⟩⟩⟩
      · rw [hx.1] at z; unfold rdy; exact decide_eq_false (fun c => c.1 z)
      · rw [hx.1] at z
        rw [(hx.2.2 z).2.2.2.1.1] at y
        exact tail hs I (m + 1) (fun z => absurd z zn) (fun _ => ⟨by omega, by omega⟩) z6 (by omega) (Or.inr (by unfold rdy; exact decide_eq_true ⟨z, y⟩)) (fun _ _ => rfl) hS w hm
      · rw [hx.1] at z
        rw [(hx.2.2 z).2.2.2.1.1] at y
        unfold rdy; exact decide_eq_false (fun c => y c.2)
  refine callZ_of rfl (b_c_ask it iw ⟨fun z => inner (Or.inl z), fun z => ?_⟩)
  refine act_cs (t := t) hS hO (fun hn => ?_) (fun tn e t8 a1 ha y1 y2 y3 => ?_)
  · have ns : ¬ seer S t := fun c => c.elim z hn
    refine ⟨fun _ => o101 ns, fun z1 => ⟨fun _ => o101 ns, fun z2 => ⟨by omega, fun _ => o101 ns, fun z3 => ?_⟩⟩⟩
    obtain ⟨tn, e⟩ : ∃ tn : Nat, t = tn := ⟨t.toNat, by omega⟩
    have := (hS.2.1 tn (by omega)).1
    rw [e, Int.toNat_natCast, this] at z3
    exact absurd ⟨by omega, by omega, by rw [e, Int.toNat_natCast]; exact z3⟩ hn
  · refine ⟨fun z1 => absurd z1 (by omega), fun z1 => ⟨fun z2 => absurd z2 (by omega), fun z2 => ⟨by omega, fun z3 => ?_, fun z3 => inner (Or.inr ha)⟩⟩⟩
    rw [e, Int.toNat_natCast, y1] at z3
    exact absurd z3 (by decide)
