/-! THE REFERENCE: ask, count, audit -/
theorem rsr_q {I J : Mm} {S : St} {q q' : List Int × Int × Int} (h : ∀ c, 213 ≤ c → c ≤ 248 → J c = I c) (hq : QsR J q) (hS : RSR I (sSetQ S q')) : RSR J (sSetQ S q) := by
  obtain ⟨r1, r2, ⟨r0, r3⟩, r4, r5⟩ := hS
  exact ⟨rowR_cg (fun c h1 h2 => h c (by omega) (by omega)) r1, fun t ht => txR_cg (fun c h1 h2 => h c (by omega) (by omega)) (r2 t ht), ⟨cnOK_cg (h _ (by omega) (by omega)) r0, fun i hi => ixR_cg (fun c h1 h2 => h c (by omega) (by omega)) (r3 i hi)⟩, bdR_cg (h _ (by omega) (by omega)) (h _ (by omega) (by omega)) r4, hq⟩
theorem rsr_q0 {I : Mm} {S : St} (hS : RSR I S) : RSR I (sSetQ S (sQ S)) := hS
theorem qsR_add {J J2 J3 : Mm} {A : List Int} {a b v : Int} (iv : inR v) (h : QsR J (A, a, b)) (hl : A.length < 320) (e2 : J2 = wt J 249 A.length v) (e3 : J3 = wt J2 212 36 ((A.length : Int) + 1)) : QsR J3 (A ++ [v], a, b) := by
  obtain ⟨⟨a1, a2, a3⟩, a4, a5⟩ := h
  refine ⟨⟨by rw [e3, rd_wt_s _ _ _ ⟨by omega, by omega⟩]; simp, by simp; omega, fun j x hj => ?_⟩, by rw [e3, rd_wt_k _ _ _ _ (by omega), e2, rd_wt_a _ _ _ _ (by omega)]; exact a4, by rw [e3, rd_wt_k _ _ _ _ (by omega), e2, rd_wt_a _ _ _ _ (by omega)]; exact a5⟩
  have hj : (A ++ [v])[j]? = some x := hj
  by_cases cj : j < A.length
  · rw [List.getElem?_append_left cj] at hj
    rw [e3, rd_wt_a _ _ _ _ (by omega), e2, rd_wt_k _ _ _ _ (by omega)]
    exact a3 j x hj
  · have ej : j = A.length := by
      have := (List.getElem?_eq_some_iff.mp hj).1
      simp at this
      omega
    subst ej
    simp at hj
    rw [e3, rd_wt_a _ _ _ _ (by omega), e2, rd_wt_s _ _ _ iv, hj]
set_option maxHeartbeats 1000000 in
theorem c_raskScan {I : Mm} {K : Int → Mm → Prop} {S : St} {t : Int} {m2 m3 m5 m6 : Option AV} (it : inR t) (o2 : okO m2) (o3 : okO m3) (o5 : okO m5) (o6 : okO m6) (hS : RSR I (sSetQ S ([], 0, 320)))
    (hK : ∀ J : Mm, LFr I J → RSR J (sSetQ S (scA (sW S) (sLo S) (sHi S) t 320 0, 0, 320)) → K ((scA (sW S) (sLo S) (sHi S) t 320 0).length : Int) J) : GoA 202 127 [some (.inr (3, 0, 0)), some (.inl (1, t)), m2, m3, some (.inl (1, ((0 : Nat) : Int))), m5, m6] [] I (rZ K) := by
  have lp : ∀ (d p : Nat) (J : Mm) (A : List Int), p + d = 320 → A.length ≤ p → LFr I J → RSR J (sSetQ S (A, 0, 320)) → A ++ scA (sW S) (sLo S) (sHi S) t d p = scA (sW S) (sLo S) (sHi S) t 320 0 → GoA 202 127 [some (.inr (3, 0, 0)), some (.inl (1, t)), m2, m3, some (.inl (1, (p : Int))), m5, m6] [] J (rZ K) := by
    intro d
    induction d with
    | zero =>
      intro p J A hp hA hF hJ hs
      have hs : A ++ [] = scA (sW S) (sLo S) (sHi S) t 320 0 := hs
      rw [List.append_nil] at hs
      rw [← hs] at hK
      have q1 : rd J 212 36 = (A.length : Int) := hJ.2.2.2.2.1.1
      refine b_r_ask_127 it o2 o3 (inRn (by omega)) o5 o6 ⟨fun _ => ?_, fun z => absurd (by omega) z⟩
      rw [q1]
      exact hK J hF hJ
    | succ d ih =>
      intro p J A hp hA hF hJ hs
      have hs : A ++ ((if fitI (sLo S) (sHi S) (snI (sW S) t p) then [(p : Int)] else []) ++ scA (sW S) (sLo S) (sHi S) t d (p + 1)) = scA (sW S) (sLo S) (sHi S) t 320 0 := hs
      have q1 : rd J 212 36 = (A.length : Int) := hJ.2.2.2.2.1.1
      refine b_r_ask_127 it o2 o3 (inRn (by omega)) o5 o6 ⟨fun z => absurd z (by omega), fun _ => ?_⟩
      refine c_rfits (w := sW S) (lo := sLo S) (hi := sHi S) it (by omega) hJ.1 hJ.2.2.2.1 ?_
      cases c : fitI (sLo S) (sHi S) (snI (sW S) t p) with
      | false =>
        rw [c, if_neg (by decide), List.nil_append] at hs
        refine ⟨fun _ v ev _ => ?_, fun z => absurd rfl z⟩
        rw [wrn (p + 1) (by omega) (by omega)] at ev
        subst ev
        exact ih (p + 1) J A (by omega) (by omega) hF hJ hs
      | true =>
        rw [c, if_pos rfl, ← List.append_assoc] at hs
        refine ⟨fun z => absurd z (by decide), fun _ => ?_⟩
        rw [q1, Int.toNat_natCast]
        refine ⟨by omega, fun J2 e2 J3 e3 v ev _ => ?_⟩
        rw [wrn (p + 1) (by omega) (by omega)] at ev
        subst ev
        have q2 : rd J2 212 36 = (A.length : Int) := by rw [e2, rd_wt_a _ _ _ _ (by omega), q1]
        rw [q2] at e3
        have g : ∀ c, c ≠ 249 → c ≠ 212 → J3 c = J c := fun c h1 h2 => by rw [e3, wt_a _ _ _ _ h2, e2, wt_a _ _ _ _ h1]
        exact ih (p + 1) J3 (A ++ [(p : Int)]) (by omega) (by simp; omega) (fun c hc => by rw [g c (by omega) (by omega), hF c hc]) (rsr_q (fun c h1 h2 => g c (by omega) (by omega)) (qsR_add (inRn (by omega)) hJ.2.2.2.2 (by omega) e2 e3) hJ) hs
  exact lp 320 0 I [] (by omega) (by simp) (fun _ _ => rfl) hS rfl
set_option maxHeartbeats 2000000 in
theorem c_raskIx {I : Mm} {K : Int → Mm → Prop} {S : St} {t a : Int} {n : Nat} {m2 m3 m6 : Option AV} (it : inR t) (n6 : n < 6) (o2 : okO m2) (o3 : okO m3) (o6 : okO m6) (hO : SOK S) (hS : RSR I (sSetQ S ([], a, 0))) (hU : ¬ xU (sX S n) = 0) (hp : ∀ e ∈ lsT (xT (sX S n)), 0 ≤ e.2.2.2 ∧ e.2.2.2 < 320) (h320 : (ixA S n t).length ≤ 320) (f3 : rd I 212 45 = (lsT (xT (sX S n))).length) (f4 : ∀ p e, (lsT (xT (sX S n)))[p]? = some e → ∃ q : Nat, rd I 253 p = q ∧ q < 10800 ∧ sE I q = e)
    (hK : ∀ J : Mm, LFr I J → RSR J (sSetQ S (ixA S n t, a, ((rng S n : Nat) : Int))) → K ((ixA S n t).length : Int) J) : GoA 202 196 [some (.inr (3, 0, 0)), some (.inl (1, t)), m2, m3, some (.inl (1, (n : Int))), some (.inl (1, ((0 : Nat) : Int))), m6] [] I (rZ K) := by
  obtain ⟨u1, k1, g1, l1, p1⟩ := sok_3 hO n n6 hU
  obtain ⟨L, hL⟩ : ∃ L, L = lsT (xT (sX S n)) := ⟨_, rfl⟩
  obtain ⟨g, hg⟩ : ∃ g : E → Bool, g = fun e => rgE (xK (sX S n)) (sLo S) (sHi S) e (xK (sX S n)).1 0 := ⟨_, rfl⟩
  have rg : rng S n = (L.filter g).length := by unfold rng; rw [hL, hg]
  have ea : ixA S n t = (L.filter (ixOK S n t)).map (fun e => e.2.2.2) := by unfold ixA; rw [hL]
  rw [← hL] at f3 f4 l1 hp
  rw [ea, rg] at hK
  rw [ea] at h320
  have sub : ∀ p, (((L.take p).filter (ixOK S n t)).map (fun e => e.2.2.2)).length ≤ 320 := fun p => by
    rw [List.length_map] at h320 ⊢
    have := ((List.take_sublist p L).filter (ixOK S n t)).length_le
    omega
  have lp : ∀ (d p : Nat) (J : Mm) (m6 : Option AV), okO m6 → p + d = L.length → LFr I J → RSR J (sSetQ S (((L.take p).filter (ixOK S n t)).map (fun e => e.2.2.2), a, ((((L.take p).filter g).length : Nat) : Int))) → rd J 212 45 = (L.length : Int) → (∀ c, c ≠ 212 → c ≠ 249 → J c = I c) → GoA 202 196 [some (.inr (3, 0, 0)), some (.inl (1, t)), m2, m3, some (.inl (1, (n : Int))), some (.inl (1, (p : Int))), m6] [] J (rZ K) := by
    intro d
    induction d with
    | zero =>
      intro p J m6 o6 hpd hF hJ h45 hc
      have q1 : rd J 212 36 = ((((L.take p).filter (ixOK S n t)).map (fun e => e.2.2.2)).length : Int) := hJ.2.2.2.2.1.1
      refine b_r_ask_196 it o2 o3 (inRn (by omega)) (inRn (by omega)) o6 ?_
      rw [h45]
      refine ⟨fun _ => ?_, fun z => absurd (by omega) z⟩
      rw [q1]
      have pl : p = L.length := by omega
      rw [pl, List.take_length] at hJ ⊢
      exact hK J hF hJ
    | succ d ih =>
      intro p J m6 o6 hpd hF hJ h45 hc
      obtain ⟨A, hA⟩ : ∃ A, A = ((L.take p).filter (ixOK S n t)).map (fun e => e.2.2.2) := ⟨_, rfl⟩
      have tl := take_le (L := L) p g
      obtain ⟨e, he⟩ : ∃ e, L[p]? = some e := ⟨_, List.getElem?_eq_getElem (by omega)⟩
      have hpe := hp e (List.mem_of_getElem? he)
      obtain ⟨pl, hpl⟩ : ∃ pl : Nat, e.2.2.2 = pl := ⟨e.2.2.2.toNat, by omega⟩
      have pl3 : pl < 320 := by omega
      obtain ⟨q, q1, q2, q3⟩ := f4 p e he
      have ft1 := take_f he g
      have ft2 := take_f he (ixOK S n t)
      have ge : rgE (xK (sX S n)) (sLo S) (sHi S) e (xK (sX S n)).1 0 = g e := by rw [hg]
      have ix : ixOK S n t e = (g e && (hkE (xK (sX S n)) (snI (sW S) t pl) e && fitI (sLo S) (sHi S) (snI (sW S) t pl))) := by unfold ixOK; rw [ge, hpl, Int.toNat_natCast]
      have ih' := ih (p + 1)
      rw [ft1, ft2, List.map_append] at ih'
      have su := sub (p + 1)
      rw [ft2, List.map_append] at su
      rw [← hA] at hJ ih' su
      have r36 : rd J 212 36 = (A.length : Int) := hJ.2.2.2.2.1.1
      have r39 : rd J 212 39 = ((((L.take p).filter g).length : Nat) : Int) := hJ.2.2.2.2.2.2
      have v253 : ∀ M : Mm, (∀ c, c ≠ 212 → c ≠ 249 → M c = I c) → rd M 253 p = (q : Int) := fun M h => by rw [rd_of (h 253 (by omega) (by omega)), q1]
      have sM : ∀ M : Mm, (∀ c, c ≠ 212 → c ≠ 249 → M c = I c) → sE M q = e := fun M h => by rw [sE_of (h _ (by omega) (by omega)) (h _ (by omega) (by omega)), q3]
      refine b_r_ask_196 it o2 o3 (inRn (by omega)) (inRn (by omega)) o6 ?_
      rw [h45, Int.toNat_natCast, v253 J hc]
      refine ⟨fun z => absurd z (by omega), fun _ => ⟨by omega, fun v6 e6 i6 => ?_⟩⟩
      subst e6
      have hCJ : kyR J n (xK (sX S n)) := ((hJ.2.2.1.2 n n6).2 hU).2.1
      refine c_rinRange (e := e) (lo := sLo S) (hi := sHi S) n6 k1 hCJ q2 (sM J hc) hJ.2.2.2.1 ?_
      rw [ge]
      have o6' : okO (some (.inl (1, (q : Int)))) := okO_s (okF_1 (inRn (by omega)) 1)
      cases c : g e with
      | false =>
        rw [c, Bool.false_and] at ix
        rw [c, ix, if_neg (by decide), List.append_nil, List.map_nil, List.append_nil] at ih'
        refine ⟨fun _ v ev _ => ?_, fun z => absurd rfl z⟩
        rw [wrn (p + 1) (by omega) (by omega)] at ev
        subst ev
        exact ih' J _ o6' (by omega) hF hJ h45 hc
      | true =>
        rw [c, Bool.true_and] at ix
        rw [c, if_pos rfl, List.length_append] at ih'
        refine ⟨fun z => absurd z (by decide), fun _ J2 e2 => ?_⟩
        rw [r39] at e2
        have c2 : ∀ c, c ≠ 212 → J2 c = J c := fun c hc => by rw [e2, wt_a _ _ _ _ hc]
        have hc2 : ∀ c, c ≠ 212 → c ≠ 249 → J2 c = I c := fun c h1 h2 => by rw [c2 c h1, hc c h1 h2]
        have k2 : ∀ k, k ≠ 39 → rd J2 212 k = rd J 212 k := fun k hk => by rw [e2, rd_wt_k _ _ _ _ hk]
        have v39 : rd J2 212 39 = ((((L.take p).filter g).length + 1 : Nat) : Int) := by rw [e2, rd_wt_s _ _ _ ⟨by omega, by omega⟩]; omega
        have hq2 : QsR J2 (A, a, ((((L.take p).filter g).length + 1 : Nat) : Int)) := by
          obtain ⟨⟨y1, y2, y3⟩, y4, y5⟩ := hJ.2.2.2.2
          exact ⟨⟨by rw [k2 _ (by omega)]; exact y1, y2, fun j v hj => by rw [rd_of (c2 249 (by omega))]; exact y3 j v hj⟩, by rw [k2 _ (by omega)]; exact y4, v39⟩
        have hJ2 : RSR J2 (sSetQ S (A, a, ((((L.take p).filter g).length + 1 : Nat) : Int))) := rsr_q (fun c h1 h2 => c2 c (by omega)) hq2 hJ
        have hF2 : LFr I J2 := fun c h => by rw [c2 c (by omega), hF c h]
        have h452 : rd J2 212 45 = (L.length : Int) := by rw [k2 _ (by omega), h45]
        have hC2 : kyR J2 n (xK (sX S n)) := ((hJ2.2.2.1.2 n n6).2 hU).2.1
        refine c_rhas (w := sW S) (e := e) (p := pl) it n6 k1 hC2 q2 (sM J2 hc2) hpl pl3 hJ2.1 ?_
        have no : ixOK S n t e = false → ∀ v, v = wr ((p : Int) + 1) → inR v → GoA 202 196 [some (.inr (3, 0, 0)), some (.inl (1, t)), m2, m3, some (.inl (1, (n : Int))), some (.inl (1, v)), some (.inl (1, (q : Int)))] [] J2 (rZ K) := fun hn v ev _ => by
          rw [wrn (p + 1) (by omega) (by omega)] at ev
          subst ev
          rw [hn, if_neg (by decide), List.map_nil, List.append_nil] at ih'
          exact ih' J2 _ o6' (by omega) hF2 hJ2 h452 hc2
        cases hk : hkE (xK (sX S n)) (snI (sW S) t pl) e with
        | false => exact ⟨fun _ => no (by rw [ix, hk, Bool.false_and]), fun z => absurd rfl z⟩
        | true =>
          refine ⟨fun z => absurd z (by decide), fun _ => ⟨by omega, ?_⟩⟩
          have r5 : rd J2 245 ((q : Int)).toNat = (pl : Int) := by rw [Int.toNat_natCast, ← hpl, ← sM J2 hc2]; rfl
          rw [r5]
          refine c_rfits (w := sW S) (lo := sLo S) (hi := sHi S) it pl3 hJ2.1 hJ2.2.2.2.1 ?_
          cases hf : fitI (sLo S) (sHi S) (snI (sW S) t pl) with
          | false => exact ⟨fun _ => no (by rw [ix, hk, hf]; rfl), fun z => absurd rfl z⟩
          | true =>
            have ixt : ixOK S n t e = true := by rw [ix, hk, hf]; rfl
            rw [ixt, if_pos rfl] at ih' su
            have su : (A ++ [e.2.2.2]).length ≤ 320 := su
            rw [List.length_append] at su
            have su : A.length + 1 ≤ 320 := su
            have r362 : rd J2 212 36 = (A.length : Int) := by rw [k2 _ (by omega), r36]
            refine ⟨fun z => absurd z (by decide), fun _ => ⟨by omega, ?_⟩⟩
            rw [r362, Int.toNat_natCast]
            refine ⟨by omega, fun J5 e5 J6 e6 v ev _ => ?_⟩
            rw [wrn (p + 1) (by omega) (by omega)] at ev
            subst ev
            have r365 : rd J5 212 36 = (A.length : Int) := by rw [e5, rd_wt_a _ _ _ _ (by omega), r362]
            rw [r365] at e6
            have g6 : ∀ c, c ≠ 249 → c ≠ 212 → J6 c = J2 c := fun c h1 h2 => by rw [e6, wt_a _ _ _ _ h2, e5, wt_a _ _ _ _ h1]
            rw [r5] at e5
            have q6 := qsR_add (v := (pl : Int)) (inRn (by omega)) hq2 (by omega) e5 e6
            have h456 : rd J6 212 45 = (L.length : Int) := by rw [e6, rd_wt_k _ _ _ _ (by omega), e5, rd_wt_a _ _ _ _ (by omega), h452]
            rw [← hpl] at q6
            exact ih' J6 _ o6' (by omega) (fun c h => by rw [g6 c (by omega) (by omega), hF2 c h]) (rsr_q (fun c h1 h2 => g6 c (by omega) (by omega)) q6 hJ2) h456 (fun c h1 h2 => by rw [g6 c h2 h1, hc2 c h1 h2])
  exact lp L.length 0 I m6 o6 (by omega) (fun _ _ => rfl) hS f3 (fun _ _ _ => rfl)
set_option maxHeartbeats 2000000 in
theorem c_rask {I : Mm} {K : Int → Mm → Prop} {S : St} {t w : Int} (it : inR t) (iw : inR w) (hS : RSR I S) (hO : SOK S) (hQ : SQK S)
    (hK : ∀ J : Mm, LFr I J → RSR J (oAsk S t w).2 → K (oAsk S t w).1 J) : CallZ 202 [.inr (3, 0, 0), .inl (1, t), .inl (1, w)] I K := by
  have ow : okO (some (.inl (1, w))) := okO_s (okF_1 iw 1)
  have tl : seer S t → ∀ (J : Mm) (n : Nat), (w = -1 → n = chL S 6 0 0) → (¬ w = -1 → 0 ≤ w ∧ n = w.toNat) → w ≤ 6 → n ≤ 6 → (n = 0 ∨ rdy (sX S (n - 1)) = true) → LFr I J → RSR J S → ∀ I1, I1 = wt J 212 38 (n : Int) → ∀ I2, I2 = wt I1 212 36 0 → ((n : Int) = 0 → ∀ I5, I5 = wt I2 212 39 320 → GoA 202 127 [some (.inr (3, 0, 0)), some (.inl (1, t)), (some (.inl (1, w))), some (.inl (1, (n : Int))), some (.inl (2, 0)), none, none] [] I5 (rZ K)) ∧ (¬ (n : Int) = 0 → ∀ v4_1, v4_1 = wr ((n : Int) - 1) → inR v4_1 → CallV 157 [.inr (3, 0, 0), .inl (1, v4_1)] I2 (fun I3 => ∀ I4, I4 = wt I3 212 39 0 → GoA 202 196 [some (.inr (3, 0, 0)), some (.inl (1, t)), (some (.inl (1, w))), some (.inl (1, (n : Int))), some (.inl (1, v4_1)), some (.inl (2, 0)), none] [] I4 (rZ K))) := by
    intro hs J n w1 w2 w6 n6 hr hF hJ I1 e1 I2 e2
    have ew : wy S w = n := by
      unfold wy
      by_cases c : w = -1
      · rw [if_pos c, w1 c]
      · rw [if_neg c, (w2 c).2]
    have eA : oAsk S t w = (((toldQ S t n).1.length : Int), sSetQ S (toldQ S t n)) := by
      unfold oAsk
      rw [if_neg (fun c => c hs), if_neg, if_neg, ew]
      · intro ⟨c1, c2⟩
        have := w2 (by omega)
        rcases hr with r | r
        · omega
        · rw [← this.2] at c2; rw [r] at c2; exact absurd c2 (by decide)
      · by_cases c : w = -1
        · omega
        · have := w2 c; omega
    rw [eA] at hK
    have c2 : ∀ c, c ≠ 212 → I2 c = J c := fun c h => by rw [e2, wt_a _ _ _ _ h, e1, wt_a _ _ _ _ h]
    have v38 : rd I2 212 38 = (n : Int) := by rw [e2, rd_wt_k _ _ _ _ (by omega), e1, rd_wt_s _ _ _ (inRn (by omega))]
    have v36 : rd I2 212 36 = 0 := by rw [e2, rd_wt_s _ _ _ ⟨by omega, by omega⟩]
    have o_n : okO (some (.inl (1, (n : Int)))) := okO_s (okF_1 (inRn (by omega)) 1)
    refine ⟨fun z I5 e5 => ?_, fun z v ev _ => ?_⟩
    · have n0 : n = 0 := by omega
      subst n0
      have q5 : QsR I5 (([] : List Int), 0, 320) := ⟨⟨by rw [e5, rd_wt_k _ _ _ _ (by omega), v36]; rfl, by simp, fun j v hj => by simp at hj⟩, by rw [e5, rd_wt_k _ _ _ _ (by omega), v38]; rfl, by rw [e5, rd_wt_s _ _ _ ⟨by omega, by omega⟩]⟩
      have g5 : ∀ c, c ≠ 212 → I5 c = J c := fun c h => by rw [e5, wt_a _ _ _ _ h, c2 c h]
      refine c_raskScan it ow o_n okO_n okO_n (rsr_q (fun c h1 h2 => g5 c (by omega)) q5 (rsr_q0 hJ)) ?_
      intro L f1 f2
      exact hK L (fun c h => by rw [f1 c h, g5 c (by omega), hF c h]) f2
    · obtain ⟨m, hm⟩ : ∃ m : Nat, n = m + 1 := ⟨n - 1, by omega⟩
      subst hm
      have m6 : m < 6 := by omega
      rw [wrn m (by omega) (by omega)] at ev
      subst ev
      have hr1 : rdy (sX S m) = true := by
        rcases hr with r | r
        · omega
        · exact r
      have hU0 : ¬ xU (sX S m) = 0 := by unfold rdy at hr1; exact (of_decide_eq_true hr1).1
      obtain ⟨u1, k1, g1, l1, p1⟩ := sok_3 hO m m6 hU0
      have q2 : QsR I2 (([] : List Int), ((m + 1 : Nat) : Int), rd I2 212 39) := ⟨⟨v36, by simp, fun j v hj => by simp at hj⟩, v38, rfl⟩
      have h2 : RSR I2 (sSetQ S ([], ((m + 1 : Nat) : Int), rd I2 212 39)) := rsr_q (fun c h1 h2 => c2 c (by omega)) q2 (rsr_q0 hJ)
      obtain ⟨b1, b2, b3, b4, b5, b6, b7, b8⟩ := (h2.2.2.1.2 m m6).2 hU0
      refine c_goThrough m6 b6 g1 (Nat.le_trans l1 (by omega)) ?_
      intro I3 f1 f2 f3 f4 I4 e4
      have g4 : ∀ c, c ≠ 212 → c ≠ 251 → c ≠ 252 → c ≠ 253 → c ≠ 254 → I4 c = I2 c := fun c h1 h2 h3 h4 h5 => by rw [e4, wt_a _ _ _ _ h1, f1 c h1 h2 h3 h4 h5]
      have k4 : ∀ k, k ≠ 39 → rd I4 212 k = rd I3 212 k := fun k hk => by rw [e4, rd_wt_k _ _ _ _ hk]
      have q4 : QsR I4 (([] : List Int), ((m + 1 : Nat) : Int), 0) := ⟨⟨by rw [k4 _ (by omega), f2 _ (by omega) (by omega), v36]; rfl, by simp, fun j v hj => by simp at hj⟩, by rw [k4 _ (by omega), f2 _ (by omega) (by omega), v38], by rw [e4, rd_wt_s _ _ _ ⟨by omega, by omega⟩]⟩
      refine c_raskIx (S := S) (a := ((m + 1 : Nat) : Int)) it m6 ow o_n okO_n hO (rsr_q (fun c h1 h2 => g4 c (by omega) (by omega) (by omega) (by omega) (by omega)) q4 h2) hU0 (hQ m m6 hr1).1 ((hQ m m6 hr1).2 t hs) (by rw [k4 _ (by omega)]; exact f3) (fun p e he => ?_) ?_
      · obtain ⟨q, q1, q2, q3, _⟩ := f4 p e he
        exact ⟨q, by rw [e4, rd_wt_a _ _ _ _ (by omega)]; exact q1, q2, by rw [sE_of (g4 _ (by omega) (by omega) (by omega) (by omega) (by omega)) (g4 _ (by omega) (by omega) (by omega) (by omega) (by omega))]; exact q3⟩
      · intro L y1 y2
        exact hK L (fun c h => by rw [y1 c h, g4 c (by omega) (by omega) (by omega) (by omega) (by omega), c2 c (by omega), hF c h]) y2
  have ch : seer S t → w = -1 → ∀ (d i b : Nat) (J : Mm), i + d = 6 → b ≤ 6 → (b = 0 ∨ rdy (sX S (b - 1)) = true) → chL S d i b = chL S 6 0 0 → LFr I J → RSR J S → GoA 202 56 [some (.inr (3, 0, 0)), some (.inl (1, t)), some (.inl (1, w)), some (.inl (1, (b : Int))), some (.inl (1, (i : Int))), none, none] [] J (rZ K) := by
    intro hs hw d
    induction d with
    | zero =>
      intro i b J hi hb hr hc hF hJ
      have hc : b = chL S 6 0 0 := hc
      refine b_r_ask_56 it ow (inRn (by omega)) (inRn (by omega)) okO_n okO_n ⟨fun _ => ?_, fun z => absurd (by omega) z⟩
      exact tl hs J b (fun _ => hc) (fun z => absurd hw z) (by omega) hb hr hF hJ
    | succ d ih =>
      intro i b J hi hb hr hc hF hJ
      have hc : chL S d (i + 1) (if rdy (sX S i) = true ∧ cst S (i + 1) < cst S b then i + 1 else b) = chL S 6 0 0 := hc
      have hx := hJ.2.2.1.2 i (by omega)
      have no : ¬ (rdy (sX S i) = true ∧ cst S (i + 1) < cst S b) → ∀ J' : Mm, LFr I J' → RSR J' S → ∀ v3, v3 = (b : Int) → inR v3 → ∀ v4, v4 = wr ((i : Int) + 1) → inR v4 → GoA 202 56 [some (.inr (3, 0, 0)), some (.inl (1, t)), some (.inl (1, w)), some (.inl (1, v3)), some (.inl (1, v4)), none, none] [] J' (rZ K) := by
        intro hn J' hF' hJ' v3 e3 _ v4 e4 _
        rw [if_neg hn] at hc
        rw [wrn (i + 1) (by omega) (by omega)] at e4
        subst e3; subst e4
        exact ih (i + 1) b J' (by omega) hb hr hc hF' hJ'
      refine b_r_ask_56 it ow (inRn (by omega)) (inRn (by omega)) okO_n okO_n ⟨fun z => absurd z (by omega), fun _ => ⟨fun z => absurd z (by omega), fun _ => ⟨fun z => absurd z (by omega), fun _ => ⟨by omega, ?_⟩⟩⟩⟩
      rw [Int.toNat_natCast, hx.1]
      refine ⟨fun z => no (fun c => (of_decide_eq_true c.1).1 z) J hF hJ, fun z => ⟨by omega, ?_⟩⟩
      rw [(hx.2 z).2.2.2.1.1]
      refine ⟨fun z2 => ?_, fun z2 => no (fun c => z2 (of_decide_eq_true c.1).2) J hF hJ⟩
      have hri : rdy (sX S i) = true := decide_eq_true ⟨z, z2⟩
      have hri' : i + 1 = 0 ∨ rdy (sX S (i + 1 - 1)) = true := Or.inr (by rw [Nat.add_sub_cancel]; exact hri)
      refine callZ_fl (as' := [.inr (3, 0, 0), .inl (1, ((i + 1 : Nat) : Int))]) rfl ?_
      refine c_rcostOf hJ hO (by omega) hri' ?_
      intro J1 y1 y2
      refine c_rcostOf y2 hO hb hr ?_
      intro J2 z1 z2
      have ci := cst_le hO (show i + 1 ≤ 6 by omega) hri'
      have cb := cst_le hO hb hr
      have hF2 := lfr_tr hF (lfr_tr y1 z1)
      refine ⟨fun z3 => no (fun c => absurd c.2 (by omega)) J2 hF2 z2, fun z3 v3 e3 _ v4 e4 _ => ?_⟩
      rw [wrn (i + 1) (by omega) (by omega)] at e3 e4
      subst e3; subst e4
      rw [if_pos ⟨hri, by omega⟩] at hc
      exact ih (i + 1) (i + 1) J2 (by omega) (by omega) hri' hc hF2 z2
  have out : ∀ v : Int, (oAsk S t w) = (v, S) → K v I := fun v e => by
    rw [e] at hK
    exact hK I (fun _ _ => rfl) hS
  have o102 : seer S t → (w < -1 ∨ 6 < w) → K (-102) I := fun hs hw => out _ (by unfold oAsk; rw [if_neg (fun c => c hs), if_pos hw])
  have o101 : ¬ seer S t → K (-101) I := fun hs => out _ (by unfold oAsk; rw [if_pos hs])
  have blk : seer S t → (0 < w → w ≤ 6 → rdy (sX S (w.toNat - 1)) = true) → (w < (-1) → (rZ K) (some (.inl (2, (-102)))) I) ∧ (¬ w < (-1) → (6 < w → (rZ K) (some (.inl (2, (-102)))) I) ∧ (¬ 6 < w → ∀ v3_1, v3_1 = w → inR v3_1 → (w = (-1) → GoA 202 56 [some (.inr (3, 0, 0)), some (.inl (1, t)), some (.inl (1, w)), some (.inl (2, 0)), some (.inl (2, 0)), none, none] [] I (rZ K)) ∧ (¬ w = (-1) → ∀ I1, I1 = wt I 212 38 v3_1 → ∀ I2, I2 = wt I1 212 36 0 → (v3_1 = 0 → ∀ I5, I5 = wt I2 212 39 320 → GoA 202 127 [some (.inr (3, 0, 0)), some (.inl (1, t)), some (.inl (1, w)), some (.inl (1, v3_1)), some (.inl (2, 0)), none, none] [] I5 (rZ K)) ∧ (¬ v3_1 = 0 → ∀ v4_2, v4_2 = wr (v3_1 - 1) → inR v4_2 → CallV 157 [.inr (3, 0, 0), .inl (1, v4_2)] I2 (fun I3 => ∀ I4, I4 = wt I3 212 39 0 → GoA 202 196 [some (.inr (3, 0, 0)), some (.inl (1, t)), some (.inl (1, w)), some (.inl (1, v3_1)), some (.inl (1, v4_2)), some (.inl (2, 0)), none] [] I4 (rZ K)))))) := by
    intro hs hr
    refine ⟨fun z => o102 hs (Or.inl z), fun z => ⟨fun z2 => o102 hs (Or.inr z2), fun z2 v3 e3 _ => ⟨fun z3 => ?_, fun z3 => ?_⟩⟩⟩
    · exact ch hs z3 6 0 0 I (by omega) (by omega) (Or.inl rfl) rfl (fun _ _ => rfl) hS
    · rw [e3]
      obtain ⟨n, hn⟩ : ∃ n : Nat, w = n := ⟨w.toNat, by omega⟩
      have T := tl hs I n (fun z => absurd z z3) (fun _ => ⟨by omega, by omega⟩) (by omega) (by omega) (by
        by_cases c : n = 0
        · exact Or.inl c
        · have := hr (by omega) (by omega)
          rw [hn, Int.toNat_natCast] at this
          exact Or.inr this) (fun _ _ => rfl) hS
      rw [← hn] at T
      exact T
  have inner : seer S t → (w < 1 → (w < (-1) → (rZ K) (some (.inl (2, (-102)))) I) ∧ (¬ w < (-1) → (6 < w → (rZ K) (some (.inl (2, (-102)))) I) ∧ (¬ 6 < w → ∀ v3_1, v3_1 = w → inR v3_1 → (w = (-1) → GoA 202 56 [some (.inr (3, 0, 0)), some (.inl (1, t)), some (.inl (1, w)), some (.inl (2, 0)), some (.inl (2, 0)), none, none] [] I (rZ K)) ∧ (¬ w = (-1) → ∀ I1, I1 = wt I 212 38 v3_1 → ∀ I2, I2 = wt I1 212 36 0 → (v3_1 = 0 → ∀ I5, I5 = wt I2 212 39 320 → GoA 202 127 [some (.inr (3, 0, 0)), some (.inl (1, t)), some (.inl (1, w)), some (.inl (1, v3_1)), some (.inl (2, 0)), none, none] [] I5 (rZ K)) ∧ (¬ v3_1 = 0 → ∀ v4_2, v4_2 = wr (v3_1 - 1) → inR v4_2 → CallV 157 [.inr (3, 0, 0), .inl (1, v4_2)] I2 (fun I3 => ∀ I4, I4 = wt I3 212 39 0 → GoA 202 196 [some (.inr (3, 0, 0)), some (.inl (1, t)), some (.inl (1, w)), some (.inl (1, v3_1)), some (.inl (1, v4_2)), some (.inl (2, 0)), none] [] I4 (rZ K))))))) ∧ (¬ w < 1 → (6 < w → (w < (-1) → (rZ K) (some (.inl (2, (-102)))) I) ∧ (¬ w < (-1) → (6 < w → (rZ K) (some (.inl (2, (-102)))) I) ∧ (¬ 6 < w → ∀ v3_3, v3_3 = w → inR v3_3 → (w = (-1) → GoA 202 56 [some (.inr (3, 0, 0)), some (.inl (1, t)), some (.inl (1, w)), some (.inl (2, 0)), some (.inl (2, 0)), none, none] [] I (rZ K)) ∧ (¬ w = (-1) → ∀ I6, I6 = wt I 212 38 v3_3 → ∀ I7, I7 = wt I6 212 36 0 → (v3_3 = 0 → ∀ I10, I10 = wt I7 212 39 320 → GoA 202 127 [some (.inr (3, 0, 0)), some (.inl (1, t)), some (.inl (1, w)), some (.inl (1, v3_3)), some (.inl (2, 0)), none, none] [] I10 (rZ K)) ∧ (¬ v3_3 = 0 → ∀ v4_4, v4_4 = wr (v3_3 - 1) → inR v4_4 → CallV 157 [.inr (3, 0, 0), .inl (1, v4_4)] I7 (fun I8 => ∀ I9, I9 = wt I8 212 39 0 → GoA 202 196 [some (.inr (3, 0, 0)), some (.inl (1, t)), some (.inl (1, w)), some (.inl (1, v3_3)), some (.inl (1, v4_4)), some (.inl (2, 0)), none] [] I9 (rZ K))))))) ∧ (¬ 6 < w → (wr (w - 1) < 0 → (rZ K) (some (.inl (2, (-101)))) I) ∧ (¬ wr (w - 1) < 0 → (5 < wr (w - 1) → (rZ K) (some (.inl (2, (-101)))) I) ∧ (¬ 5 < wr (w - 1) → (0 ≤ (wr (w - 1)) ∧ (wr (w - 1)) < 6) ∧ ((rd I 224 (wr (w - 1)).toNat = 0 → (rZ K) (some (.inl (2, (-101)))) I) ∧ (¬ rd I 224 (wr (w - 1)).toNat = 0 → (0 ≤ (wr (w - 1)) ∧ (wr (w - 1)) < 6) ∧ ((rd I 228 (wr (w - 1)).toNat = 4 → (w < (-1) → (rZ K) (some (.inl (2, (-102)))) I) ∧ (¬ w < (-1) → (6 < w → (rZ K) (some (.inl (2, (-102)))) I) ∧ (¬ 6 < w → ∀ v3_5, v3_5 = w → inR v3_5 → (w = (-1) → GoA 202 56 [some (.inr (3, 0, 0)), some (.inl (1, t)), some (.inl (1, w)), some (.inl (2, 0)), some (.inl (2, 0)), none, none] [] I (rZ K)) ∧ (¬ w = (-1) → ∀ I11, I11 = wt I 212 38 v3_5 → ∀ I12, I12 = wt I11 212 36 0 → (v3_5 = 0 → ∀ I15, I15 = wt I12 212 39 320 → GoA 202 127 [some (.inr (3, 0, 0)), some (.inl (1, t)), some (.inl (1, w)), some (.inl (1, v3_5)), some (.inl (2, 0)), none, none] [] I15 (rZ K)) ∧ (¬ v3_5 = 0 → ∀ v4_6, v4_6 = wr (v3_5 - 1) → inR v4_6 → CallV 157 [.inr (3, 0, 0), .inl (1, v4_6)] I12 (fun I13 => ∀ I14, I14 = wt I13 212 39 0 → GoA 202 196 [some (.inr (3, 0, 0)), some (.inl (1, t)), some (.inl (1, w)), some (.inl (1, v3_5)), some (.inl (1, v4_6)), some (.inl (2, 0)), none] [] I14 (rZ K))))))) ∧ (¬ rd I 228 (wr (w - 1)).toNat = 4 → (rZ K) (some (.inl (2, (-101)))) I)))))))) := by
    intro hs
    refine ⟨fun z => blk hs (fun z1 _ => absurd z1 (by omega)), fun z => ⟨fun z1 => blk hs (fun _ z2 => absurd z2 (by omega)), fun z1 => ?_⟩⟩
    obtain ⟨m, hm⟩ : ∃ m : Nat, w = ((m + 1 : Nat) : Int) := ⟨(w - 1).toNat, by omega⟩
    have e1 : wr (w - 1) = m := wrn _ (by omega) (by omega)
    have m6 : m < 6 := by omega
    rw [e1, Int.toNat_natCast]
    have hx := hS.2.2.1.2 m m6
    have no : rdy (sX S m) = false → K (-101) I := fun hr => out _ (by
      unfold oAsk
      rw [if_neg (fun c => c hs), if_neg (by omega), if_pos ⟨by omega, by rw [hm, Int.toNat_natCast]; exact hr⟩])
    refine ⟨fun z => absurd z (by omega), fun _ => ⟨fun z => absurd z (by omega), fun _ => ⟨by omega, fun z => no ?_, fun z => ⟨by omega, fun y => blk hs (fun _ _ => ?_), fun y => no ?_⟩⟩⟩⟩
    · rw [hx.1] at z; unfold rdy; exact decide_eq_false (fun c => c.1 z)
    · rw [hx.1] at z
      rw [(hx.2 z).2.2.2.1.1] at y
      rw [hm, Int.toNat_natCast, Nat.add_sub_cancel]
      unfold rdy; exact decide_eq_true ⟨z, y⟩
    · rw [hx.1] at z
      rw [(hx.2 z).2.2.2.1.1] at y
      unfold rdy; exact decide_eq_false (fun c => y c.2)
  exact callZ_of rfl (b_r_ask it iw ⟨fun z => inner (Or.inl z), fun z => r_act hS hO (fun hn => o101 (fun c => c.elim z hn)) (fun tn e t8 a1 ha y1 y2 y3 => inner (Or.inr ha))⟩)
