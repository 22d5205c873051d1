/-! THE REFERENCE: fits, ranges, costs -/
/-- where the image that is seen stands -/
theorem sn_a {I : Mm} {w : Rw} {t : Int} {p : Nat} (hp : p < 320) (hw : RowR I w) : ∃ a, isA a ∧ imR I a p = snI w t p ∧ bl (rd I (a + 2) p) ∧ (t = -1 → a = 213) ∧ (¬ t = -1 → rd I 217 p = t → a = 214) ∧ (¬ t = -1 → ¬ rd I 217 p = t → a = 213) := by
  obtain ⟨cm, cu, wv, bm, bu⟩ := hw p hp
  by_cases c : ¬ t = -1 ∧ w.2.2 p = t
  · exact ⟨214, Or.inr rfl, by unfold snI; rw [if_pos c]; exact cu, bu, fun z => absurd z c.1, fun _ _ => rfl, fun _ z => absurd (wv.trans c.2) z⟩
  · exact ⟨213, Or.inl rfl, by unfold snI; rw [if_neg c]; exact cm, bm, fun _ => rfl, fun z1 z2 => absurd ⟨z1, wv.symm.trans z2⟩ c, fun _ _ => rfl⟩
theorem isA_ne {a : Nat} (h : isA a) : a = 213 ∨ a = 214 := h
set_option maxHeartbeats 1000000 in
theorem c_rfits {I : Mm} {K : Int → Mm → Prop} {w : Rw} {t : Int} {p fb : Nat} {lo hi : Nat → Int} (it : inR t) (hp : p < 320) (hw : RowR I w) (hb : BdR I lo hi) (h : K (b01 (fitI lo hi (snI w t p))) I) : CallZ 196 [.inr (3, 0, 0), .inl (1, t), .inl (fb, (p : Int))] I K := by
  obtain ⟨a, hA, hs, hbl, a1, a2, a3⟩ := sn_a (t := t) hp hw
  have lp : ∀ (d f : Nat) (ft : Int), f + d = 4 → bl ft → (ft = 0 → K 0 I) → (ft = 1 → ∃ x, imR I a p = some x ∧ K (b01 (ftF lo hi x d f)) I) → GoA 196 10 [some (.inr (3, 0, 0)), some (.inl (1, t)), some (.inl (1, (p : Int))), some (.inl (1, ft)), some (.inl (1, (f : Int)))] [] I (rZ K) := by
    intro d
    induction d with
    | zero =>
      intro f ft hf b0 k0 k1
      have ift : inR ft := by rcases b0 with e | e <;> rw [e] <;> exact ⟨by omega, by omega⟩
      refine b_r_fits_10 it (inRn (by omega)) ift (inRn (by omega)) ⟨fun _ => ⟨b0, ?_⟩, fun z => absurd (by omega) z⟩
      rcases b0 with e | e
      · rw [e]; exact k0 e
      · obtain ⟨x, hx, hk⟩ := k1 e
        rw [e]; exact hk
    | succ d ih =>
      intro f ft hf b0 k0 k1
      have ift : inR ft := by rcases b0 with e | e <;> rw [e] <;> exact ⟨by omega, by omega⟩
      have body : ft = 1 → (0 ≤ (wr ((4 * (p : Int)) + (f : Int))) ∧ (wr ((4 * (p : Int)) + (f : Int))) < 1280) ∧ ((0 ≤ (f : Int) ∧ (f : Int) < 4) ∧ ((0 ≤ (f : Int) ∧ (f : Int) < 4) ∧ ((rd I a (wr ((4 * (p : Int)) + (f : Int))).toNat < rd I 247 (f : Int).toNat → ∀ v4_1, v4_1 = wr ((f : Int) + 1) → inR v4_1 → GoA 196 10 [some (.inr (3, 0, 0)), some (.inl (1, t)), some (.inl (1, (p : Int))), some (.inl (2, 0)), some (.inl (1, v4_1))] [] I (rZ K)) ∧ (¬ rd I a (wr ((4 * (p : Int)) + (f : Int))).toNat < rd I 247 (f : Int).toNat → (rd I 248 (f : Int).toNat < rd I a (wr ((4 * (p : Int)) + (f : Int))).toNat → ∀ v4_2, v4_2 = wr ((f : Int) + 1) → inR v4_2 → GoA 196 10 [some (.inr (3, 0, 0)), some (.inl (1, t)), some (.inl (1, (p : Int))), some (.inl (2, 0)), some (.inl (1, v4_2))] [] I (rZ K)) ∧ (¬ rd I 248 (f : Int).toNat < rd I a (wr ((4 * (p : Int)) + (f : Int))).toNat → ∀ v4_3, v4_3 = wr ((f : Int) + 1) → inR v4_3 → GoA 196 10 [some (.inr (3, 0, 0)), some (.inl (1, t)), some (.inl (1, (p : Int))), some (.inl (2, 1)), some (.inl (1, v4_3))] [] I (rZ K)))))) := fun e => by
        obtain ⟨x, hx, hk⟩ := k1 e
        have hk : K (b01 (if fv x f < lo f ∨ hi f < fv x f then false else ftF lo hi x d (f + 1))) I := hk
        have wv : wr (4 * (p : Int) + (f : Int)) = ((4 * p + f : Nat) : Int) := wrn _ (by omega) (by omega)
        rw [wv, Int.toNat_natCast, Int.toNat_natCast, imG_fv hx (by omega), (hb f (by omega)).1, (hb f (by omega)).2]
        have no : (fv x f < lo f ∨ hi f < fv x f) → ∀ v, v = wr ((f : Int) + 1) → inR v → GoA 196 10 [some (.inr (3, 0, 0)), some (.inl (1, t)), some (.inl (1, (p : Int))), some (.inl (2, 0)), some (.inl (1, v))] [] I (rZ K) := fun z v ev _ => by
          rw [wrn (f + 1) (by omega) (by omega)] at ev
          subst ev
          rw [if_pos z] at hk
          exact ih (f + 1) 0 (by omega) (Or.inl rfl) (fun _ => hk) (fun z => absurd z (by decide))
        refine ⟨by omega, by omega, by omega, fun z => no (Or.inl z), fun z => ⟨fun z2 => no (Or.inr z2), fun z2 v ev _ => ?_⟩⟩
        rw [wrn (f + 1) (by omega) (by omega)] at ev
        subst ev
        rw [if_neg (by omega)] at hk
        exact ih (f + 1) 1 (by omega) (Or.inr rfl) (fun z => absurd z (by decide)) (fun _ => ⟨x, hx, hk⟩)
      refine b_r_fits_10 it (inRn (by omega)) ift (inRn (by omega)) ⟨fun z => absurd z (by omega), fun _ => ⟨fun z => ⟨b0, by rw [z]; exact k0 z⟩, fun z => ?_⟩⟩
      have f1 : ft = 1 := by rcases b0 with e | e; exact absurd e z; exact e
      have B := body f1
      refine ⟨fun z1 => ?_, fun z1 => ⟨by omega, fun z2 => ?_, fun z2 => ?_⟩⟩
      · rw [a1 z1] at B; exact B
      · rw [Int.toNat_natCast] at z2
        rw [a2 z1 z2] at B; exact B
      · rw [Int.toNat_natCast] at z2
        rw [a3 z1 z2] at B; exact B
  have st : ∀ v : Int, v = rd I (a + 2) p → GoA 196 10 [some (.inr (3, 0, 0)), some (.inl (1, t)), some (.inl (1, (p : Int))), some (.inl (1, v)), some (.inl (1, ((0 : Nat) : Int)))] [] I (rZ K) := fun v ev => by
    refine lp 4 0 v (by omega) (by rw [ev]; exact hbl) (fun z => ?_) (fun z => ?_)
    · rw [ev] at z
      have : imR I a p = none := imG_none z
      rw [← hs, this] at h
      exact h
    · rw [ev] at z
      obtain ⟨x, hx⟩ : ∃ x, imR I a p = some x := imG_ex (by omega)
      rw [← hs, hx] at h
      exact ⟨x, hx, h⟩
  refine callZ_fl (as' := [.inr (3, 0, 0), .inl (1, t), .inl (1, (p : Int))]) rfl ?_
  refine callZ_of rfl (b_r_fits it (inRn (by omega)) ?_)
  simp only [Int.toNat_natCast]
  refine ⟨fun z => ⟨by omega, ?_⟩, fun z => ⟨by omega, fun z2 => ⟨by omega, ?_⟩, fun z2 => ⟨by omega, ?_⟩⟩⟩
  · have := a1 z; subst this
    exact ⟨hbl, fun v ev _ => st v ev⟩
  · have := a2 z z2; subst this
    exact ⟨hbl, fun v ev _ => st v ev⟩
  · have := a3 z z2; subst this
    exact ⟨hbl, fun v ev _ => st v ev⟩
theorem ew_sE {I : Mm} {sl j : Nat} {e : E} (he : sE I sl = e) (hj : j < 3) : rd I 244 (3 * sl + j) = ew e j := by
  rw [← he]
  have h3 : j = 0 ∨ j = 1 ∨ j = 2 := by omega
  rcases h3 with h | h | h <;> subst h <;> rfl
set_option maxHeartbeats 1000000 in
theorem c_rinRange {I : Mm} {K : Int → Mm → Prop} {i sl fa fb : Nat} {k : Ky} {e : E} {lo hi : Nat → Int} (hi6 : i < 6) (hk : kyOK k) (hC : kyR I i k) (hsl : sl < 10800) (he : sE I sl = e) (hb : BdR I lo hi) (h : K (b01 (rgE k lo hi e k.1 0)) I) : CallZ 197 [.inr (3, 0, 0), .inl (fa, (i : Int)), .inl (fb, (sl : Int))] I K := by
  have k3 := hk.2.1
  have lp : ∀ (d f : Nat) (m4 m5 : Option AV), okO m4 → okO m5 → f + d = k.1 → K (b01 (rgE k lo hi e d f)) I → GoA 197 2 [some (.inr (3, 0, 0)), some (.inl (1, (i : Int))), some (.inl (1, (sl : Int))), some (.inl (1, (f : Int))), m4, m5] [] I (rZ K) := by
    intro d
    induction d with
    | zero =>
      intro f m4 m5 o4 o5 hf hh
      refine b_r_isInRange_2 (inRn (by omega)) (inRn (by omega)) (inRn (by omega)) o4 o5 ⟨by omega, ?_⟩
      rw [Int.toNat_natCast, hC.1]
      exact ⟨fun _ => hh, fun z => absurd (by omega) z⟩
    | succ d ih =>
      intro f m4 m5 o4 o5 hf hh
      have f4 := hk.2.2 f (by omega)
      have hh : K (b01 (if ew e f < lo (k.2 f) ∨ hi (k.2 f) < ew e f then false else if lo (k.2 f) = hi (k.2 f) then rgE k lo hi e d (f + 1) else true)) I := hh
      have w1 : wr (3 * (i : Int) + (f : Int)) = ((3 * i + f : Nat) : Int) := wrn _ (by omega) (by omega)
      have w2 : wr (3 * (sl : Int) + (f : Int)) = ((3 * sl + f : Nat) : Int) := wrn _ (by omega) (by omega)
      refine b_r_isInRange_2 (inRn (by omega)) (inRn (by omega)) (inRn (by omega)) o4 o5 ⟨by omega, ?_⟩
      rw [Int.toNat_natCast, hC.1, w1, w2, Int.toNat_natCast, Int.toNat_natCast, hC.2 f (by omega), ew_sE he (by omega)]
      refine ⟨fun z => absurd z (by omega), fun _ => ⟨by omega, fun v4 e4 i4 => ⟨by omega, fun v5 e5 i5 => ?_⟩⟩⟩
      subst e4
      subst e5
      rw [Int.toNat_natCast, (hb _ f4).1, (hb _ f4).2]
      refine ⟨by omega, by omega, fun z => ⟨by omega, fun z2 v ev _ => ?_, fun z2 => ?_⟩, fun z => ⟨by omega, by omega, fun z2 => ?_, fun z2 => ⟨fun z3 => ?_, fun z3 => ?_⟩⟩⟩
      · rw [wrn (f + 1) (by omega) (by omega)] at ev
        subst ev
        rw [if_neg (by omega), if_pos z] at hh
        exact ih (f + 1) _ _ (okO_s (okF_1 i4 1)) (okO_s (okF_1 i5 1)) (by omega) hh
      · rw [if_pos (by omega)] at hh; exact hh
      · rw [if_pos (Or.inl z2)] at hh; exact hh
      · rw [if_pos (Or.inr z3)] at hh; exact hh
      · rw [if_neg (by omega), if_neg z] at hh; exact hh
  refine callZ_fl (as' := [.inr (3, 0, 0), .inl (1, (i : Int)), .inl (1, (sl : Int))]) rfl ?_
  exact callZ_of rfl (b_r_isInRange (inRn (by omega)) (inRn (by omega)) (lp k.1 0 none none okO_n okO_n (by omega) h))
theorem take_f {e : E} {L : List E} {p : Nat} (he : L[p]? = some e) (f : E → Bool) : (L.take (p + 1)).filter f = (L.take p).filter f ++ (if f e then [e] else []) := by
  rw [List.take_add_one, he, List.filter_append]
  congr 1
  show List.filter f [e] = _
  rw [List.filter_cons, List.filter_nil]
theorem take_le {L : List E} (p : Nat) (f : E → Bool) : ((L.take p).filter f).length ≤ p := by
  have := List.length_filter_le f (L.take p)
  rw [List.length_take] at this
  omega
set_option maxHeartbeats 1000000 in
theorem c_rrangeOf {I : Mm} {K : Int → Mm → Prop} {S : St} {n fa : Nat} (n6 : n < 6) (hS : RSR I S) (hO : SOK S) (hU : ¬ xU (sX S n) = 0) (hK : ∀ J : Mm, LFr I J → RSR J S → K ((rng S n : Nat) : Int) J) : CallZ 198 [.inr (3, 0, 0), .inl (fa, (n : Int))] I K := by
  obtain ⟨u1, k1, g1, l1, p1⟩ := sok_3 hO n n6 hU
  obtain ⟨b1, b2, b3, b4, b5, b6, b7, b8⟩ := (hS.2.2.1.2 n n6).2 hU
  refine callZ_fl (as' := [.inr (3, 0, 0), .inl (1, (n : Int))]) rfl ?_
  refine callZ_of rfl (b_r_rangeOf (inRn (by omega)) ?_)
  refine c_goThrough n6 b6 g1 (by omega) ?_
  intro J f1 f2 f3 f4
  have hJ := rsr_g f1 f2 hS
  obtain ⟨_, c2, _⟩ := (hJ.2.2.2.1.2 n n6).2 hU
  have sJ : ∀ q, sE J q = sE I q := fun q => sE_of (f1 _ (by omega) (by omega) (by omega) (by omega) (by omega)) (f1 _ (by omega) (by omega) (by omega) (by omega) (by omega)) q
  obtain ⟨L, hL⟩ : ∃ L, L = lsT (xT (sX S n)) := ⟨_, rfl⟩
  obtain ⟨g, hg⟩ : ∃ g : E → Bool, g = fun e => rgE (xK (sX S n)) (sLo S) (sHi S) e (xK (sX S n)).1 0 := ⟨_, rfl⟩
  have rg : rng S n = (L.filter g).length := by unfold rng; rw [hL, hg]
  rw [← hL] at f3 f4 l1
  have lp : ∀ (d p : Nat), p + d = L.length → GoA 198 9 [some (.inr (3, 0, 0)), some (.inl (1, (n : Int))), some (.inl (1, ((((L.take p).filter g).length : Nat) : Int))), some (.inl (1, (p : Int)))] [] J (rZ K) := by
    intro d
    induction d with
    | zero =>
      intro p hp
      have tl := take_le (L := L) p g
      refine b_r_rangeOf_9 (inRn (by omega)) (inRn (by omega)) (inRn (by omega)) ?_
      rw [f3]
      refine ⟨fun _ => ?_, fun z => absurd (by omega) z⟩
      rw [show p = L.length by omega, List.take_length, ← rg]
      exact hK J hJ.1 hJ.2
    | succ d ih =>
      intro p hp
      have tl := take_le (L := L) p g
      obtain ⟨e, he⟩ : ∃ e, L[p]? = some e := ⟨_, List.getElem?_eq_getElem (by omega)⟩
      obtain ⟨q, q1, q2, q3, q4⟩ := f4 p e he
      refine b_r_rangeOf_9 (inRn (by omega)) (inRn (by omega)) (inRn (by omega)) ?_
      rw [f3, Int.toNat_natCast, q1]
      refine ⟨fun z => absurd z (by omega), fun _ => ⟨by omega, ?_⟩⟩
      refine c_rinRange (e := e) n6 k1 c2 q2 (by rw [sJ]; exact q3) hJ.2.2.2.2.1 ?_
      have ft := take_f he g
      have ge : rgE (xK (sX S n)) (sLo S) (sHi S) e (xK (sX S n)).1 0 = g e := by rw [hg]
      rw [ge]
      have ih' := ih (p + 1) (by omega)
      rw [ft] at ih'
      cases c : g e with
      | true =>
        rw [c, if_pos rfl, List.length_append] at ih'
        refine ⟨fun z => absurd z (by decide), fun _ v2 e2 _ v3 e3 _ => ?_⟩
        rw [wrn (((L.take p).filter g).length + 1) (by omega) (by omega)] at e2
        rw [wrn (p + 1) (by omega) (by omega)] at e3
        subst e2; subst e3
        exact ih'
      | false =>
        rw [c, if_neg (by decide), List.append_nil] at ih'
        refine ⟨fun _ v2 e2 _ v3 e3 _ => ?_, fun z => absurd rfl z⟩
        rw [wrn (p + 1) (by omega) (by omega)] at e3
        subst e2; subst e3
        exact ih'
  exact lp L.length 0 (by omega)
set_option maxHeartbeats 2000000 in
theorem c_rpages {I : Mm} {K : Int → Mm → Prop} {w : Rw} {m1 : Option AV} (om1 : okO m1) (hw : RowR I w) (h : K ((8 * pgs w : Nat) : Int) I) : GoA 199 26 [some (.inr (3, 0, 0)), m1, some (.inl (1, ((0 : Nat) : Int))), some (.inl (1, ((0 : Nat) : Int))), none, none] [] I (rZ K) := by
  have tot := cntN_le (fun g => anyN (fun q => !fre w q) 8 (8 * g)) 40 0
  have iu : ∀ u : Bool, inR (b01 u) := inR_b01
  have outer : ∀ (d g n : Nat) (m4 m5 : Option AV), okO m4 → okO m5 → g + d = 40 → n + cntN (fun g => anyN (fun q => !fre w q) 8 (8 * g)) d g = pgs w → GoA 199 26 [some (.inr (3, 0, 0)), m1, some (.inl (1, (n : Int))), some (.inl (1, (g : Int))), m4, m5] [] I (rZ K) := by
    intro d
    induction d with
    | zero =>
      intro g n m4 m5 o4 o5 hg hn
      have hn : n = pgs w := hn
      have ptot : pgs w ≤ 40 := tot
      refine b_r_costOf_26 om1 (inRn (by omega)) (inRn (by omega)) o4 o5 ⟨fun _ => ?_, fun z => absurd (by omega) z⟩
      show K (wr (8 * (n : Int))) I
      rw [wrn (8 * n) (by omega) (by omega), hn]; exact h
    | succ d ih =>
      intro g n m4 m5 o4 o5 hg hn
      have hn : n + ((if anyN (fun q => !fre w q) 8 (8 * g) = true then 1 else 0) + cntN (fun g => anyN (fun q => !fre w q) 8 (8 * g)) d (g + 1)) = pgs w := hn
      have ptot : pgs w ≤ 40 := tot
      have inner : ∀ (e k : Nat) (u : Bool), k + e = 8 → (u || anyN (fun q => !fre w q) e (8 * g + k)) = anyN (fun q => !fre w q) 8 (8 * g) → GoA 199 41 [some (.inr (3, 0, 0)), m1, some (.inl (1, (n : Int))), some (.inl (1, (g : Int))), some (.inl (1, b01 u)), some (.inl (1, ((8 * g + k : Nat) : Int)))] [] I (rZ K) := by
        intro e
        have w8 : wr (8 * (g : Int) + 8) = ((8 * g + 8 : Nat) : Int) := wrn _ (by omega) (by omega)
        induction e with
        | zero =>
          intro k u hk hu
          have hu : (u || false) = anyN (fun q => !fre w q) 8 (8 * g) := hu
          rw [Bool.or_false] at hu
          refine b_r_costOf_41 om1 (inRn (by omega)) (inRn (by omega)) (iu u) (inRn (by omega)) ?_
          rw [w8]
          refine ⟨fun _ => ⟨fun z v2 e2 _ v3 e3 _ => ?_, fun z v2 e2 _ v3 e3 _ => ?_⟩, fun z => absurd (by omega) z⟩
          · rw [← hu, b01_0.mp z, if_neg (by decide)] at hn
            rw [wrn (g + 1) (by omega) (by omega)] at e3
            subst e2; subst e3
            exact ih (g + 1) n _ _ (okO_s (okF_1 (iu u) 1)) (okO_s (okF_1 (inRn (by omega)) 1)) (by omega) (by omega)
          · have ut : u = true := by cases u; exact absurd rfl z; rfl
            rw [← hu, ut, if_pos rfl] at hn
            rw [wrn (n + 1) (by omega) (by omega)] at e2
            rw [wrn (g + 1) (by omega) (by omega)] at e3
            subst e2; subst e3
            exact ih (g + 1) (n + 1) _ _ (okO_s (okF_1 (iu u) 1)) (okO_s (okF_1 (inRn (by omega)) 1)) (by omega) (by omega)
        | succ e ihe =>
          intro k u hk hu
          have hu : (u || (!fre w (8 * g + k) || anyN (fun q => !fre w q) e (8 * g + k + 1))) = anyN (fun q => !fre w q) 8 (8 * g) := hu
          obtain ⟨p, hp⟩ : ∃ p, p = 8 * g + k := ⟨_, rfl⟩
          rw [← hp] at hu ⊢
          have p3 : p < 320 := by omega
          obtain ⟨_, cu, wv, _, _⟩ := hw p p3
          have nx : ∀ (u' : Bool) (c : Int), c = b01 u' → (u || !fre w p) = u' → ∀ v5, v5 = wr ((p : Int) + 1) → inR v5 → GoA 199 41 [some (.inr (3, 0, 0)), m1, some (.inl (1, (n : Int))), some (.inl (1, (g : Int))), some (.inl (1, c)), some (.inl (1, v5))] [] I (rZ K) := by
            intro u' c hc hf v5 e5 _
            rw [wrn (8 * g + (k + 1)) (by omega) (by omega)] at e5
            subst e5
            subst hc
            refine ihe (k + 1) u' (by omega) ?_
            rw [← Bool.or_assoc, hf] at hu
            rw [show 8 * g + (k + 1) = p + 1 by omega]
            exact hu
          refine b_r_costOf_41 om1 (inRn (by omega)) (inRn (by omega)) (iu u) (inRn (by omega)) ?_
          rw [w8, Int.toNat_natCast, wv]
          refine ⟨fun z => absurd z (by omega), fun _ => ⟨fun z => ⟨by omega, fun z2 => ⟨by omega, fun z3 => ?_, fun z3 => ?_⟩, fun z2 => ?_⟩, fun z => ?_⟩⟩
          · have uf := b01_0.mp z
            have : imR I 214 p = none := imG_none z3
            rw [this] at cu
            exact nx false 0 rfl (by rw [uf]; unfold fre; rw [decide_eq_true z2, ← cu]; rfl)
          · obtain ⟨y, hy⟩ : ∃ y, imR I 214 p = some y := imG_ex z3
            rw [hy] at cu
            exact nx true 1 rfl (by unfold fre; rw [← cu]; simp)
          · exact nx true 1 rfl (by unfold fre; rw [decide_eq_false z2]; simp)
          · have ut : u = true := by cases u; exact absurd rfl z; rfl
            exact nx true 1 rfl (by rw [ut]; rfl)
      refine b_r_costOf_26 om1 (inRn (by omega)) (inRn (by omega)) o4 o5 ⟨fun z => absurd z (by omega), fun _ v e5 _ => ?_⟩
      rw [wrn (8 * g) (by omega) (by omega)] at e5
      subst e5
      exact inner 8 0 false (by omega) (by rw [Bool.false_or]; rfl)
  exact outer 40 0 0 none none okO_n okO_n (by omega) (by unfold pgs; omega)
set_option maxHeartbeats 1000000 in
theorem c_rcostOf {I : Mm} {K : Int → Mm → Prop} {S : St} {w fa : Nat} (hS : RSR I S) (hO : SOK S) (hw : w ≤ 6) (hr : w = 0 ∨ rdy (sX S (w - 1)) = true) (hK : ∀ J : Mm, LFr I J → RSR J S → K ((cst S w : Nat) : Int) J) : CallZ 199 [.inr (3, 0, 0), .inl (fa, (w : Int))] I K := by
  refine callZ_fl (as' := [.inr (3, 0, 0), .inl (1, (w : Int))]) rfl ?_
  unfold cst at hK
  refine callZ_of rfl (b_r_costOf (inRn (by omega)) ⟨fun z => ?_, fun z => ?_⟩)
  · rw [if_pos (by omega)] at hK
    exact c_rpages (okO_s (okF_1 (inRn (by omega)) 1)) hS.1 (hK I (fun _ _ => rfl) hS)
  · rw [if_neg (by omega)] at hK
    have hr : rdy (sX S (w - 1)) = true := by rcases hr with h | h; omega; exact h
    have hr' := of_decide_eq_true hr
    obtain ⟨u1, k1, g1, l1, p1⟩ := sok_3 hO (w - 1) (by omega) hr'.1
    obtain ⟨b1, b2, b3, b4, b5, b6, b7, b8⟩ := (hS.2.2.1.2 (w - 1) (by omega)).2 hr'.1
    have wv : (w : Int) - 1 = ((w - 1 : Nat) : Int) := by omega
    rw [wv]
    refine c_heightOf (by omega) b6 g1 (by omega) ?_
    refine c_rrangeOf (by omega) hS hO hr'.1 ?_
    intro J f1 f2
    have hh : (xT (sX S (w - 1))).1 ≤ 5 := ht_good g1 (by omega)
    have rl := rng_le S (w - 1)
    show K (wr ((((xT (sX S (w - 1))).1 + 1 : Nat) : Int) + 3 * ((rng S (w - 1) : Nat) : Int))) J
    rw [wrn ((xT (sX S (w - 1))).1 + 1 + 3 * rng S (w - 1)) (by omega) (by omega)]
    exact hK J f1 f2
theorem lfr_tr {I J L : Mm} (h1 : LFr I J) (h2 : LFr J L) : LFr I L := fun c hc => by rw [h2 c hc, h1 c hc]
theorem c_rcost {I : Mm} {K : Int → Mm → Prop} {S : St} {w : Int} (iw : inR w) (hS : RSR I S) (hO : SOK S) (hK : ∀ J : Mm, LFr I J → RSR J S → K (oCost S w) J) : CallZ 205 [.inr (3, 0, 0), .inl (1, w)] I K := by
  unfold oCost at hK
  have bad : (w < 0 ∨ 6 < w) → K (-102) I := fun c => by rw [if_pos c] at hK; exact hK I (fun _ _ => rfl) hS
  refine callZ_of rfl (b_r_cost iw ⟨fun z => ⟨fun z1 => bad (Or.inl z1), fun z1 => ⟨fun z2 => bad (Or.inr z2), fun z2 => ?_⟩⟩, fun z => ⟨fun z1 => ⟨fun z2 => bad (Or.inl z2), fun _ => ⟨fun z2 => bad (Or.inr z2), fun z2 => absurd z1 z2⟩⟩, fun z1 => ?_⟩⟩)
  · rw [if_neg (by omega), if_neg (fun c => absurd c.1 (by omega))] at hK
    have : w = ((0 : Nat) : Int) := by omega
    subst this
    exact c_rcostOf hS hO (by omega) (Or.inl rfl) hK
  · rw [if_neg (by omega)] at hK
    obtain ⟨wn, hwn⟩ : ∃ wn : Nat, w = ((wn + 1 : Nat) : Int) := ⟨(w - 1).toNat, by omega⟩
    subst hwn
    rw [Int.toNat_natCast, Nat.add_sub_cancel] at hK
    have wv : wr (((wn + 1 : Nat) : Int) - 1) = (wn : Int) := wrn _ (by omega) (by omega)
    have hx := hS.2.2.1.2 wn (by omega)
    rw [wv, Int.toNat_natCast, hx.1]
    have no : ¬ (¬ xU (sX S wn) = 0 ∧ xS (sX S wn) = 4) → K (-101) I := fun c => by
      rw [if_pos ⟨by omega, decide_eq_false c⟩] at hK
      exact hK I (fun _ _ => rfl) hS
    refine ⟨fun c => absurd c (by omega), fun _ => ⟨fun c => absurd c (by omega), fun _ => ⟨by omega, fun z4 => no (fun c => c.1 z4), fun z4 => ⟨by omega, ?_⟩⟩⟩⟩
    rw [(hx.2 z4).2.2.2.1.1]
    refine ⟨fun z5 => ⟨fun c => absurd c (by omega), fun _ => ⟨fun c => absurd c (by omega), fun _ => ?_⟩⟩, fun z5 => no (fun c => z5 c.2)⟩
    have hr : rdy (sX S wn) = true := decide_eq_true ⟨z4, z5⟩
    rw [if_neg (fun c => by rw [hr] at c; exact absurd c.2 (by decide))] at hK
    exact c_rcostOf hS hO (by omega) (Or.inr (by rw [Nat.add_sub_cancel]; exact hr)) hK
set_option maxHeartbeats 1000000 in
theorem c_rhas {I : Mm} {K : Int → Mm → Prop} {w : Rw} {t : Int} {i sl p fa fb : Nat} {k : Ky} {e : E} (it : inR t) (hi : i < 6) (hk : kyOK k) (hC : kyR I i k) (hsl : sl < 10800) (he : sE I sl = e) (hpl : e.2.2.2 = (p : Int)) (hp : p < 320) (hw : RowR I w) (h : K (b01 (hkE k (snI w t p) e)) I) : CallZ 200 [.inr (3, 0, 0), .inl (fa, (i : Int)), .inl (1, t), .inl (fb, (sl : Int))] I K := by
  have k3 := hk.2.1
  obtain ⟨a, hA, hs, hbl, a1, a2, a3⟩ := sn_a (t := t) hp hw
  have r5 : rd I 245 sl = (p : Int) := by rw [← hpl, ← he]; rfl
  have lp : ∀ (d f : Nat) (ft : Int), f + d = k.1 → bl ft → (ft = 0 → K 0 I) → (ft = 1 → ∃ x, imR I a p = some x ∧ (∀ j, j < f → fv x (k.2 j) = ew e j) ∧ K (b01 (decide (∀ j, j < k.1 → fv x (k.2 j) = ew e j))) I) → GoA 200 20 [some (.inr (3, 0, 0)), some (.inl (1, (i : Int))), some (.inl (1, t)), some (.inl (1, (sl : Int))), some (.inl (1, (p : Int))), some (.inl (1, ft)), some (.inl (1, (f : Int)))] [] I (rZ K) := by
    intro d
    induction d with
    | zero =>
      intro f ft hf b0 k0 k1
      have ift : inR ft := by rcases b0 with e | e <;> rw [e] <;> exact ⟨by omega, by omega⟩
      refine b_r_hasSeenKey_20 (inRn (by omega)) it (inRn (by omega)) (inRn (by omega)) ift (inRn (by omega)) ⟨by omega, ?_⟩
      rw [Int.toNat_natCast, hC.1]
      refine ⟨fun _ => ⟨b0, ?_⟩, fun z => absurd (by omega) z⟩
      rcases b0 with e0 | e0
      · rw [e0]; exact k0 e0
      · obtain ⟨x, hx, hj, hk'⟩ := k1 e0
        rw [decide_eq_true (fun j hj' => hj j (by omega))] at hk'
        rw [e0]; exact hk'
    | succ d ih =>
      intro f ft hf b0 k0 k1
      have f4 := hk.2.2 f (by omega)
      have ift : inR ft := by rcases b0 with e | e <;> rw [e] <;> exact ⟨by omega, by omega⟩
      have w1 : wr (3 * (i : Int) + (f : Int)) = ((3 * i + f : Nat) : Int) := wrn _ (by omega) (by omega)
      have w2 : wr (3 * (sl : Int) + (f : Int)) = ((3 * sl + f : Nat) : Int) := wrn _ (by omega) (by omega)
      have body : ft = 1 → (0 ≤ (wr ((4 * (p : Int)) + (rd I 226 (wr ((3 * (i : Int)) + (f : Int))).toNat))) ∧ (wr ((4 * (p : Int)) + (rd I 226 (wr ((3 * (i : Int)) + (f : Int))).toNat))) < 1280) ∧ ((0 ≤ (wr ((3 * (sl : Int)) + (f : Int))) ∧ (wr ((3 * (sl : Int)) + (f : Int))) < 32400) ∧ ((rd I a (wr ((4 * (p : Int)) + (rd I 226 (wr ((3 * (i : Int)) + (f : Int))).toNat))).toNat = rd I 244 (wr ((3 * (sl : Int)) + (f : Int))).toNat → ∀ v6_2, v6_2 = wr ((f : Int) + 1) → inR v6_2 → GoA 200 20 [some (.inr (3, 0, 0)), some (.inl (1, (i : Int))), some (.inl (1, t)), some (.inl (1, (sl : Int))), some (.inl (1, (p : Int))), some (.inl (2, 1)), some (.inl (1, v6_2))] [] I (rZ K)) ∧ (¬ rd I a (wr ((4 * (p : Int)) + (rd I 226 (wr ((3 * (i : Int)) + (f : Int))).toNat))).toNat = rd I 244 (wr ((3 * (sl : Int)) + (f : Int))).toNat → ∀ v6_1, v6_1 = wr ((f : Int) + 1) → inR v6_1 → GoA 200 20 [some (.inr (3, 0, 0)), some (.inl (1, (i : Int))), some (.inl (1, t)), some (.inl (1, (sl : Int))), some (.inl (1, (p : Int))), some (.inl (2, 0)), some (.inl (1, v6_1))] [] I (rZ K)))) := fun e0 => by
        obtain ⟨x, hx, hj, hk'⟩ := k1 e0
        have w3 : wr (4 * (p : Int) + ((k.2 f : Nat) : Int)) = ((4 * p + k.2 f : Nat) : Int) := wrn _ (by omega) (by omega)
        rw [w1, Int.toNat_natCast, hC.2 f (by omega), w2, w3, Int.toNat_natCast, Int.toNat_natCast, imG_fv hx f4, ew_sE he (by omega)]
        refine ⟨by omega, by omega, fun z v ev _ => ?_, fun z v ev _ => ?_⟩
        · rw [wrn (f + 1) (by omega) (by omega)] at ev
          subst ev
          refine ih (f + 1) 1 (by omega) (Or.inr rfl) (fun z => absurd z (by decide)) (fun _ => ⟨x, hx, fun j hj' => ?_, hk'⟩)
          by_cases c : j = f
          · subst c; exact z
          · exact hj j (by omega)
        · rw [wrn (f + 1) (by omega) (by omega)] at ev
          subst ev
          rw [decide_eq_false (fun c => z (c f (by omega)))] at hk'
          exact ih (f + 1) 0 (by omega) (Or.inl rfl) (fun _ => hk') (fun z => absurd z (by decide))
      refine b_r_hasSeenKey_20 (inRn (by omega)) it (inRn (by omega)) (inRn (by omega)) ift (inRn (by omega)) ⟨by omega, ?_⟩
      have c1 : rd I 225 ((i : Int)).toNat = (k.1 : Int) := by rw [Int.toNat_natCast]; exact hC.1
      rw [c1]
      refine ⟨fun z => absurd z (by omega), fun _ => ⟨fun z => ⟨b0, by rw [z]; exact k0 z⟩, fun z => ⟨by rw [w1]; omega, ?_⟩⟩⟩
      have f1 : ft = 1 := by rcases b0 with e | e; exact absurd e z; exact e
      have B := body f1
      refine ⟨fun z1 => ?_, fun z1 => ⟨by omega, fun z2 => ?_, fun z2 => ?_⟩⟩
      · rw [a1 z1] at B; exact B
      · rw [Int.toNat_natCast] at z2
        rw [a2 z1 z2] at B; exact B
      · rw [Int.toNat_natCast] at z2
        rw [a3 z1 z2] at B; exact B
  have st : ∀ v : Int, v = rd I (a + 2) p → GoA 200 20 [some (.inr (3, 0, 0)), some (.inl (1, (i : Int))), some (.inl (1, t)), some (.inl (1, (sl : Int))), some (.inl (1, (p : Int))), some (.inl (1, v)), some (.inl (1, ((0 : Nat) : Int)))] [] I (rZ K) := fun v ev => by
    refine lp k.1 0 v (by omega) (by rw [ev]; exact hbl) (fun z => ?_) (fun z => ?_)
    · rw [ev] at z
      have : imR I a p = none := imG_none z
      rw [← hs, this] at h
      exact h
    · rw [ev] at z
      obtain ⟨x, hx⟩ : ∃ x, imR I a p = some x := imG_ex (by omega)
      rw [← hs, hx] at h
      exact ⟨x, hx, fun j hj => absurd hj (by omega), h⟩
  refine callZ_fl (as' := [.inr (3, 0, 0), .inl (1, (i : Int)), .inl (1, t), .inl (1, (sl : Int))]) rfl ?_
  refine callZ_of rfl (b_r_hasSeenKey (inRn (by omega)) it (inRn (by omega)) ⟨by omega, fun v4 e4 i4 => ?_⟩)
  rw [Int.toNat_natCast, r5] at e4
  subst e4
  simp only [Int.toNat_natCast]
  refine ⟨fun z => ⟨by omega, ?_⟩, fun z => ⟨by omega, fun z2 => ⟨by omega, ?_⟩, fun z2 => ⟨by omega, ?_⟩⟩⟩
  · have := a1 z; subst this
    exact ⟨hbl, fun v ev _ => st v ev⟩
  · have := a2 z z2; subst this
    exact ⟨hbl, fun v ev _ => st v ev⟩
  · have := a3 z z2; subst this
    exact ⟨hbl, fun v ev _ => st v ev⟩
