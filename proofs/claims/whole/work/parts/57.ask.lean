/-! QUESTIONS OF AN INDEX, class -/
def rgE (k : Ky) (lo hi : Nat → Int) (e : E) : Nat → Nat → Bool
  | 0, _ => true
  | d + 1, j => if ew e j < lo (k.2 j) ∨ hi (k.2 j) < ew e j then false else if lo (k.2 j) = hi (k.2 j) then rgE k lo hi e d (j + 1) else true
def hkE (k : Ky) (m : Im) (e : E) : Bool := match m with
  | some x => decide (∀ j, j < k.1 → fv x (k.2 j) = ew e j)
  | none => false
/-- the bounds -/
def BdC (I : Mm) (lo hi : Nat → Int) : Prop := ∀ f, f < 4 → rd I 19 f = lo f ∧ rd I 20 f = hi f
theorem wfr_tr {I J K' : Mm} {B : Nat} (h1 : WFr I J B) (h2 : WFr J K' B) : WFr I K' B := fun c a b c' d e => by rw [h2 c a b c' d e, h1 c a b c' d e]
theorem wfr_rf (I : Mm) (B : Nat) : WFr I I B := fun _ _ _ _ _ _ => rfl
set_option maxHeartbeats 1000000 in
theorem c_inRange {B p : Nat} {I : Mm} {K : Int → Mm → Prop} {fa : Nat} {k : Ky} {T : TS E} {e : E} {lo hi : Nat → Int} (hB : isX B) (hk : kyOK k) (hC : kyC I B k) (hT : TreeC I B T) (hg : good T) (hl : (lsT T).length ≤ 648) (he : (lsT T)[p]? = some e) (hb : BdC I lo hi)
    (h : ∀ I' : Mm, WFr I I' B → TreeC I' B T → K (b01 (rgE k lo hi e k.1 0)) I') : CallZ 34 [.inr (2, B, 0), .inl (fa, (p : Int)), .inr (0, 0, 19), .inr (0, 0, 20)] I K := by
  have pl := (List.getElem?_eq_some_iff.mp he).1
  have h62 := isX_62 hB
  have loop : ∀ (d f : Nat) (J : Mm) (m5 m6 m7 : Option AV), okO m5 → okO m6 → okO m7 → f + d = k.1 → WFr I J B → TreeC J B T → (∀ I' : Mm, WFr I I' B → TreeC I' B T → K (b01 (rgE k lo hi e d f)) I') → GoA 34 3 [some (.inr (2, B, 0)), some (.inl (1, (p : Int))), some (.inr (0, 0, 19)), some (.inr (0, 0, 20)), some (.inl (1, (f : Int))), m5, m6, m7] [] J (rZ K) := by
    intro d
    induction d with
    | zero =>
      intro f J m5 m6 m7 o5 o6 o7 hf hF hTJ hh
      have k3 := hk.2.1
      refine b_inRange_3 hB (inRn (by omega)) (inRn (by omega)) o5 o6 o7 ⟨fun _ => hh J hF hTJ, fun z => ?_⟩
      rw [rd_of (hF _ (by omega) (by omega) (by omega) (by omega) (by omega)), hC.1] at z
      exact absurd (by omega) z
    | succ d ih =>
      intro f J m5 m6 m7 o5 o6 o7 hf hF hTJ hh
      have k3 := hk.2.1
      have f4 := hk.2.2 f (by omega)
      refine b_inRange_3 hB (inRn (by omega)) (inRn (by omega)) o5 o6 o7 ⟨fun z => ?_, fun _ => ?_⟩
      · rw [rd_of (hF _ (by omega) (by omega) (by omega) (by omega) (by omega)), hC.1] at z
        exact absurd z (by omega)
      refine c_wordAt hB hTJ hg hl he (by omega) ?_
      intro J1 g1 g2
      have hF1 := wfr_tr hF g1
      intro v5 e5 i5
      subst e5
      have rf : rd J1 (B + 1) f = k.2 f := by rw [rd_of (hF1 _ (by omega) (by omega) (by omega) (by omega) (by omega)), hC.2 f (by omega)]
      rw [Int.toNat_natCast, rf, Int.toNat_natCast, rd_of (hF1 19 (by omega) (by omega) (by omega) (by omega) (by omega)), rd_of (hF1 20 (by omega) (by omega) (by omega) (by omega) (by omega)), (hb _ f4).1, (hb _ f4).2]
      refine ⟨by omega, by omega, ?_⟩
      intro v6 e6 i6
      subst e6
      refine ⟨by omega, by omega, ?_⟩
      intro v7 e7 i7
      subst e7
      have hh : ∀ I' : Mm, WFr I I' B → TreeC I' B T → K (b01 (if ew e f < lo (k.2 f) ∨ hi (k.2 f) < ew e f then false else if lo (k.2 f) = hi (k.2 f) then rgE k lo hi e d (f + 1) else true)) I' := hh
      refine ⟨fun z => ?_, fun z => ⟨fun z2 => ⟨fun z3 => ?_, fun z3 => ?_⟩, fun z2 => ?_⟩⟩
      · rw [if_pos (Or.inl z)] at hh
        exact hh J1 hF1 g2
      · intro v4 e4 _
        rw [wrn (f + 1) (by omega) (by omega)] at e4
        subst e4
        rw [if_neg (fun c => c.elim z (fun c => absurd z2 (by omega))), if_pos z3] at hh
        exact ih (f + 1) J1 _ _ _ (okO_s (okF_1 i5 1)) (okO_s (okF_1 i6 1)) (okO_s (okF_1 i7 1)) (by omega) hF1 g2 hh
      · rw [if_neg (fun c => c.elim z (fun c => absurd z2 (by omega))), if_neg z3] at hh
        exact hh J1 hF1 g2
      · rw [if_pos (Or.inr (by omega))] at hh
        exact hh J1 hF1 g2
  refine callZ_fl (as' := [.inr (2, B, 0), .inl (1, (p : Int)), .inr (0, 0, 19), .inr (0, 0, 20)]) rfl ?_
  exact callZ_of rfl (b_inRange hB (inRn (by omega)) (loop k.1 0 I none none none okO_n okO_n okO_n (by omega) (wfr_rf I B) hT h))
theorem c_nodes {I : Mm} {B : Nat} {T : TS E} (hT : TreeC I B T) : rd I (B + 2) 7 = 348 - ((ndT T.1 T.2 : Nat) : Int) := by
  obtain ⟨r, hC, hT2, _⟩ := hT
  rw [trC_c7 hC, hT2, ndT_map]
set_option maxHeartbeats 1000000 in
theorem c_rangeSize {B : Nat} {I : Mm} {K : Int → Mm → Prop} {k : Ky} {T : TS E} {lo hi : Nat → Int} (hB : isX B) (hk : kyOK k) (hC : kyC I B k) (hT : TreeC I B T) (hg : good T) (hl : (lsT T).length ≤ 648) (hb : BdC I lo hi)
    (h : ∀ I' : Mm, WFr I I' B → TreeC I' B T → K ((((lsT T).filter (fun e => rgE k lo hi e k.1 0)).length : Nat) : Int) I') : CallZ 33 [.inr (2, B, 0), .inr (0, 0, 19), .inr (0, 0, 20)] I K := by
  have h62 := isX_62 hB
  have loop : ∀ (d p n : Nat) (J : Mm), p + d = (lsT T).length → n = (((lsT T).take p).filter (fun e => rgE k lo hi e k.1 0)).length → WFr I J B → TreeC J B T → GoA 33 5 [some (.inr (2, B, 0)), some (.inr (0, 0, 19)), some (.inr (0, 0, 20)), some (.inl (1, (n : Int))), some (.inl (1, (p : Int)))] [] J (rZ K) := by
    intro d
    induction d with
    | zero =>
      intro p n J hp hn hF hTJ
      have nb : n ≤ 648 := by
        rw [hn]
        have := List.length_filter_le (fun e => rgE k lo hi e k.1 0) ((lsT T).take p)
        rw [List.length_take] at this
        omega
      refine b_rangeSize_5 hB (inRn (by omega)) (inRn (by omega)) ⟨fun _ => ?_, fun z => ?_⟩
      · rw [show p = (lsT T).length by omega, List.take_length] at hn
        rw [hn]
        exact h J hF hTJ
      · rw [c_size hTJ, wrx (by omega) (by omega)] at z
        exact absurd (by omega) z
    | succ d ih =>
      intro p n J hp hn hF hTJ
      have nb : n ≤ 647 := by
        rw [hn]
        have := List.length_filter_le (fun e => rgE k lo hi e k.1 0) ((lsT T).take p)
        rw [List.length_take] at this
        omega
      obtain ⟨e, he⟩ : ∃ e, (lsT T)[p]? = some e := ⟨_, List.getElem?_eq_getElem (by omega)⟩
      refine b_rangeSize_5 hB (inRn (by omega)) (inRn (by omega)) ⟨fun z => ?_, fun _ => ?_⟩
      · rw [c_size hTJ, wrx (by omega) (by omega)] at z
        exact absurd z (by omega)
      · refine c_inRange hB hk ⟨by rw [rd_of (hF _ (by omega) (by omega) (by omega) (by omega) (by omega))]; exact hC.1, fun j hj => by rw [rd_of (hF _ (by omega) (by omega) (by omega) (by omega) (by omega))]; exact hC.2 j hj⟩ hTJ hg hl he (fun f hf => by rw [rd_of (hF 19 (by omega) (by omega) (by omega) (by omega) (by omega)), rd_of (hF 20 (by omega) (by omega) (by omega) (by omega) (by omega))]; exact hb f hf) ?_
        intro J1 g1 g2
        have hF1 := wfr_tr hF g1
        have hs : ((lsT T).take (p + 1)).filter (fun e => rgE k lo hi e k.1 0) = ((lsT T).take p).filter (fun e => rgE k lo hi e k.1 0) ++ (if rgE k lo hi e k.1 0 then [e] else []) := by
          rw [List.take_add_one, he, List.filter_append]
          congr 1
          show List.filter _ [e] = _
          rw [List.filter_cons, List.filter_nil]
        cases hr : rgE k lo hi e k.1 0 with
        | true =>
          refine ⟨fun z => absurd z (by decide), fun _ => ?_⟩
          intro v3 e3 _ v4 e4 _
          rw [wrn (n + 1) (by omega) (by omega)] at e3
          rw [wrn (p + 1) (by omega) (by omega)] at e4
          subst e3; subst e4
          refine ih (p + 1) (n + 1) J1 (by omega) ?_ hF1 g2
          rw [hs, hr, List.length_append, hn]
          rfl
        | false =>
          refine ⟨fun _ => ?_, fun z => absurd rfl z⟩
          intro v4 e4 _
          rw [wrn (p + 1) (by omega) (by omega)] at e4
          subst e4
          refine ih (p + 1) n J1 (by omega) ?_ hF1 g2
          rw [hs, hr, List.length_append, hn]
          rfl
  exact callZ_of rfl (b_rangeSize hB (loop (lsT T).length 0 0 I (by omega) rfl (wfr_rf I B) hT))
set_option maxHeartbeats 1000000 in
theorem c_hko {B p g pl : Nat} {I : Mm} {K : Int → Mm → Prop} {fa : Nat} {k : Ky} {T : TS E} {e : E} (hB : isX B) (hg' : isG g) (hk : kyOK k) (hC : kyC I B k) (hT : TreeC I B T) (hg : good T) (hl : (lsT T).length ≤ 648) (he : (lsT T)[p]? = some e) (hpl : e.2.2.2 = pl) (hpl2 : pl < 320)
    (h : ∀ I' : Mm, WFr I I' B → TreeC I' B T → K (b01 (hkE k (imC I (g + 1) pl) e)) I') : CallZ 20 [.inr (2, B, 0), .inl (fa, (p : Int)), .inr (4, g, 0)] I K := by
  have plen := (List.getElem?_eq_some_iff.mp he).1
  have h62 := isX_62 hB
  have g12 : g + 1 ≤ 11 := by unfold isG at hg'; omega
  have gcell : ∀ J, WFr I J B → J (g + 1) = I (g + 1) := fun J hF => hF _ (by omega) (by omega) (by omega) (by omega) (by omega)
  have loop : ∀ (x : F4), imC I (g + 1) pl = some x → ∀ (d f : Nat) (J : Mm), f + d = k.1 → WFr I J B → TreeC J B T → (∀ j, j < f → fv x (k.2 j) = ew e j) → GoA 20 23 [some (.inr (2, B, 0)), some (.inl (1, (p : Int))), some (.inr (4, g, 0)), some (.inl (1, (pl : Int))), some (.inl (1, (f : Int)))] [] J (rZ K) := by
    intro x hx d
    rw [hx] at h
    have h : ∀ I' : Mm, WFr I I' B → TreeC I' B T → K (b01 (decide (∀ j, j < k.1 → fv x (k.2 j) = ew e j))) I' := h
    induction d with
    | zero =>
      intro f J hf hF hTJ ha
      have k3 := hk.2.1
      refine b_hko_23 hB hg' (inRn (by omega)) (inRn (by omega)) (inRn (by omega)) ⟨fun _ => ?_, fun z => ?_⟩
      · rw [decide_eq_true (show ∀ j, j < k.1 → fv x (k.2 j) = ew e j from fun j hj => ha j (by omega))] at h
        exact h J hF hTJ
      · rw [rd_of (hF _ (by omega) (by omega) (by omega) (by omega) (by omega)), hC.1] at z
        exact absurd (by omega) z
    | succ d ih =>
      intro f J hf hF hTJ ha
      have k3 := hk.2.1
      have f4 := hk.2.2 f (by omega)
      refine b_hko_23 hB hg' (inRn (by omega)) (inRn (by omega)) (inRn (by omega)) ⟨fun z => ?_, fun _ => ?_⟩
      · rw [rd_of (hF _ (by omega) (by omega) (by omega) (by omega) (by omega)), hC.1] at z
        exact absurd z (by omega)
      · rw [Int.toNat_natCast, rd_of (hF (B + 1) (by omega) (by omega) (by omega) (by omega) (by omega)), hC.2 f (by omega), wrn (5 * pl + k.2 f) (by omega) (by omega), Int.toNat_natCast, rd_of (gcell J hF), imC_fv hx f4]
        refine ⟨by omega, by omega, ?_⟩
        refine c_wordAt hB hTJ hg hl he (by omega) ?_
        intro J1 g1 g2
        refine ⟨fun z => ?_, fun z => ?_⟩
        · intro v4 e4 _
          rw [wrn (f + 1) (by omega) (by omega)] at e4
          subst e4
          refine ih (f + 1) J1 (by omega) (wfr_tr hF g1) g2 (fun j hj => ?_)
          by_cases c : j = f
          · subst c; exact z
          · exact ha j (by omega)
        · rw [decide_eq_false (fun c => z (c f (by omega)))] at h
          exact h J1 (wfr_tr hF g1) g2
  refine callZ_fl (as' := [.inr (2, B, 0), .inl (1, (p : Int)), .inr (4, g, 0)]) rfl ?_
  refine callZ_of rfl (b_hko hB hg' (inRn (by omega)) ?_)
  refine callZ_fl (as' := [.inr (2, B, 2), .inl (1, (p : Int)), .inl (1, ((3 : Nat) : Int))]) rfl ?_
  refine c_wordAt hB hT hg hl he (by omega) ?_
  intro J1 g1 g2 v3 e3 i3
  have : ew e 3 = (pl : Int) := hpl
  rw [this] at e3
  subst e3
  rw [wrn (5 * pl + 4) (by omega) (by omega), Int.toNat_natCast, rd_of (gcell J1 g1)]
  refine ⟨by omega, fun z => ?_, fun z => ?_⟩
  · rw [imC_none z] at h
    exact h J1 g1 g2
  · obtain ⟨x, hx⟩ := imC_ex z
    exact loop x hx k.1 0 J1 (by omega) g1 g2 (fun j hj => absurd hj (by omega))
set_option maxHeartbeats 2000000 in
theorem c_holds {B : Nat} {T : TS E} {I : Mm} {K : Int → Mm → Prop} {fa : Nat} (hB : isX B) (hT : TreeC I B T) (hg : good T) (hl : (lsT T).length ≤ 648)
    (hK : ∀ I' : Mm, (∀ c, c ≠ B + 2 → c ≠ B + 10 → c ≠ B + 11 → I' c = I c) → TreeC I' B T → K (b01 (fnT (en4 (rd I (B + 24)) 0) T.1 T.2)) I') : CallZ 71 [.inr (2, B, 2), .inr (2, B, 23), .inl (fa, ((0 : Nat) : Int))] I K := by
  obtain ⟨h, T2⟩ := T
  obtain ⟨r, hC, hT2, hW⟩ := hT
  have hC0 : TrC I B h r := hC
  simp only at hT2 hC hW
  obtain ⟨t1, t2, t3, t4, t5, t6, t7⟩ := hC
  have hh : h ≤ 5 := ht_good hg (by omega)
  refine c_find_23 (a := 0) hB (by omega) t1 t2 t5 (trC_num hC0) (by omega) ?_
  intro d x I1 f1 f2 f3 f4 f5 f6 f7
  have wE := wfE t5
  have pE : ∀ s j, pthT (fun m => (kys I B m, tcs I B m)) s r j = pthT (nsC I B) s r j := fun s j => pthT_ns (ns := nsC I B) (ns' := fun m => (kys I B m, tcs I B m)) (fun _ => rfl) s r j
  have tr : TreeC I1 B ⟨h, T2⟩ := by
    refine treeC_of (T := ⟨h, T2⟩) (r := r) (f1 _ (by omega) (by omega) (by omega)) (f1 _ (by omega) (by omega) (by omega)) (f1 _ (by omega) (by omega) (by omega)) (f1 _ (by omega) (by omega) (by omega)) (f1 _ (by omega) (by omega) (by omega)) (f1 _ (by omega) (by omega) (by omega)) (fun k k11 _ _ => f2 k k11) hC0 hT2 ?_
    intro hw
    rw [f2 14 (by omega)] at hw
    rw [f2 15 (by omega)]
    have := hW hw
    refine ⟨this.1, ?_, ?_⟩
    · refine Eq.trans (seg_congr (fun k _ => ?_)) this.2.1
      exact rd_of (f1 _ (by omega) (by omega) (by omega)) _
    · refine Eq.trans (seg_congr (fun k _ => ?_)) this.2.2
      exact rd_of (f1 _ (by omega) (by omega) (by omega)) _
  have K1 := hK I1 f1 tr
  rcases f7 with ⟨fx, fh⟩ | ⟨fx, fh, fd⟩
  · subst fx
    have fnd : fnT (en4 (rd I (B + 24)) 0) h T2 = true := by
      rw [hT2, mkE]
      by_cases cd : d = h
      · subst cd
        exact (fd0_of wE (fun j hj => by rw [pE]; exact (f5 j hj).2.2) (fun j hj => by rw [pE]; exact f6 j hj) (by rw [pE]; exact fh)).1
      · obtain ⟨s', hs'⟩ : ∃ s' : Nat → Nat, (∀ j, j ≤ d → s' j = sJ I1 B j) ∧ (∀ j, d < j → j < h → s' j = (kys I B (pthT (nsC I B) s' r j)).length) ∧ s' h = (kys I B (pthT (nsC I B) s' r h)).length - 1 := ext_path (fun n => (kys I B n).length) (nsC I B) (sJ I1 B) r d h (by omega)
        have pc : ∀ j, j ≤ d → pthT (nsC I B) s' r j = pthT (nsC I B) (sJ I1 B) r j := fun j hj => pthT_congr j (fun i hi => hs'.1 i (by omega))
        exact (fd1_of (s := s') (d := d) (by omega) wE (fun j hj => by rw [pE, pc j hj, hs'.1 j hj]; exact (f5 j hj).2.2) (fun j hj => by rw [pE, pc j (by omega)]; exact f6 j hj) (by rw [pE, pc d (Nat.le_refl _)]; exact fh) (fun j h1 h2 => by rw [pE]; exact hs'.2.1 j h1 h2) (by rw [pE]; exact hs'.2.2)).1
    rw [show fnT (en4 (rd I (B + 24)) 0) (⟨h, T2⟩ : TS E).1 (⟨h, T2⟩ : TS E).2 = true from fnd] at K1
    exact K1
  · subst fx
    subst fd
    have hnf : ∀ j, j ≤ d → hit (en4 (rd I (B + 24)) 0) (kys I B (pthT (nsC I B) (sJ I1 B) r j)) = false := by
      intro j hj
      by_cases c : j = d
      · subst c; exact fh
      · exact f6 j (by omega)
    have fnd : fnT (en4 (rd I (B + 24)) 0) d T2 = false := by
      rw [hT2, mkE]
      exact nf_of wE (fun j hj => by rw [pE]; exact (f5 j hj).2.2) (fun j hj => by rw [pE]; exact hnf j hj)
    rw [show fnT (en4 (rd I (B + 24)) 0) (⟨d, T2⟩ : TS E).1 (⟨d, T2⟩ : TS E).2 = false from fnd] at K1
    exact K1
set_option maxHeartbeats 1000000 in
/-- an entry that is there isn't missing -/
theorem c_missing {B g p : Nat} {I : Mm} {K : Int → Mm → Prop} {fa : Nat} {k : Ky} {T : TS E} {x : F4} (hB : isX B) (hg' : isG g) (hk : kyOK k) (hC : kyC I B k) (hT : TreeC I B T) (hg : good T) (hl : (lsT T).length ≤ 648) (hp : p < 320) (hx : imC I (g + 1) p = some x) (hin : kE k x p ∈ lsT T)
    (hK : ∀ I' : Mm, (∀ c, c ≠ B + 2 → c ≠ B + 10 → c ≠ B + 11 → c ≠ B + 24 → I' c = I c) → TreeC I' B T → K 0 I') : CallZ 36 [.inr (2, B, 0), .inr (4, g, 0), .inl (fa, (p : Int))] I K := by
  have h62 := isX_62 hB
  have g12 : g + 1 ≤ 11 := by unfold isG at hg'; omega
  refine callZ_fl (as' := [.inr (2, B, 0), .inr (4, g, 0), .inl (1, (p : Int))]) rfl ?_
  refine callZ_of rfl (b_missing hB hg' (inRn (by omega)) ?_)
  refine c_mke_4 hB hg' hk hC hp hp hx (by omega) ?_
  intro I1 f1 f2
  refine callZ_fl (as' := [.inr (2, B, 2), .inr (2, B, 23), .inl (1, ((0 : Nat) : Int))]) rfl ?_
  refine c_holds hB (treeC_fr (fun c c1 c2 => f1 c (by omega)) hT) hg hl ?_
  intro I2 g1 g2
  rw [f2, (fnT_iff hg).mpr hin]
  refine ⟨Or.inr rfl, fun z => absurd z (by decide), fun _ => ?_⟩
  exact hK I2 (fun c c2 c10 c11 c24 => by rw [g1 c c2 c10 c11, f1 c c24]) g2
def due (k : Ky) (w : Rw) : Nat → Nat → Nat
  | 0, _ => 0
  | d + 1, p => (enA k w p).length + (enB k w p).length + due k w d (p + 1)
def aud (x : Ix) (w : Rw) : Int := (if due (xK x) w 320 0 = (lsT (xT x)).length then 0 else 1) + (if ¬ xQ x = 0 ∧ ¬ clAny (xK x) w = -1 then 1 else 0)
theorem enA_le (k : Ky) (w : Rw) (p : Nat) : (enA k w p).length ≤ 1 := by unfold enA; cases w.1 p <;> simp
theorem enB_le (k : Ky) (w : Rw) (p : Nat) : (enB k w p).length ≤ 1 := by
  unfold enB
  cases w.2.1 p with
  | none => simp
  | some y =>
    show (if sk k (some y) (w.1 p) then [] else [kE k y p]).length ≤ 1
    cases sk k (some y) (w.1 p) <;> simp
theorem due_le (k : Ky) (w : Rw) : ∀ d p, due k w d p ≤ 2 * d
  | 0, _ => Nat.le_refl _
  | d + 1, p => by
    have h1 := enA_le k w p
    have h2 := enB_le k w p
    have h3 := due_le k w d (p + 1)
    show (enA k w p).length + (enB k w p).length + due k w d (p + 1) ≤ _
    omega
set_option maxHeartbeats 4000000 in
theorem c_ifaults {B : Nat} {I : Mm} {K : Int → Mm → Prop} {x : Ix} {w : Rw} (hB : isX B) (hU : xU x = 1) (hx : IxC I B x) (hk : kyOK (xK x)) (hw : RowC I 1 w) (hg : good (xT x)) (hl : (lsT (xT x)).length ≤ 648) (hin : ∀ p, p < 320 → ∀ e, e ∈ enA (xK x) w p ∨ e ∈ enB (xK x) w p → e ∈ lsT (xT x)) (hN : wOK w) (hA : AllE (xK x) w (xT x))
    (hK : ∀ I' : Mm, XFr I I' B → IxC I' B x → K (aud x w) I') : CallZ 35 [.inr (2, B, 0), .inr (0, 0, 1)] I K := by
  have hx0 := hx
  obtain ⟨a1, a2, a3⟩ := hx
  obtain ⟨b1, b2, b3, b4, b5, b6, b7, b8⟩ := a3 (by omega)
  have h62 := isX_62 hB
  have back : ∀ J : Mm, (∀ c, c ≠ B + 2 → c ≠ B + 10 → c ≠ B + 11 → c ≠ B + 12 → c ≠ B + 13 → c ≠ B + 14 → c ≠ B + 24 → J c = I c) → TreeC J B (xT x) → XFr I J B ∧ IxC J B x := by
    intro J f1 f2
    have hi : ∀ c, (c = B ∨ c = B + 1 ∨ (B + 15 ≤ c ∧ c ≠ B + 24)) → J c = I c := fun c hc => f1 c (by omega) (by omega) (by omega) (by omega) (by omega) (by omega) (by omega)
    have h0 : J B = I B := hi _ (by omega)
    have h1 : J (B + 1) = I (B + 1) := hi _ (by omega)
    refine ⟨fun c hc => f1 c (by omega) (by omega) (by omega) (by omega) (by omega) (by omega) (by omega), by rw [rd_of h0]; exact a1, ?_, fun _ => ⟨by rw [rd_of h0]; exact b1, kyC_cg h0 h1 b2, by rw [rd_of h1, rd_of h1, rd_of h1]; exact b3, by rw [rd_of h0, rd_of h0]; exact b4, by rw [rd_of h0, rd_of h0, rd_of h0]; exact b5, f2, logC_cg (hi _ (by omega)) (hi _ (by omega)) (hi _ (by omega)) b7, pkC_cg (hi _ (by omega)) (hi _ (by omega)) (hi _ (by omega)) b8⟩⟩
    obtain ⟨r, hC, _⟩ := f2
    exact hC.1
  have loop : ∀ (d p du : Nat) (J : Mm), p + d = 320 → (∀ c, c ≠ B + 2 → c ≠ B + 10 → c ≠ B + 11 → c ≠ B + 12 → c ≠ B + 13 → c ≠ B + 14 → c ≠ B + 24 → J c = I c) → TreeC J B (xT x) → du + due (xK x) w d p = due (xK x) w 320 0 → GoA 35 13 [some (.inr (2, B, 0)), some (.inr (0, 0, 1)), some (.inl (1, 0)), some (.inl (1, (du : Int))), some (.inl (1, (p : Int)))] [] J (rZ K) := by
    intro d
    induction d with
    | zero =>
      intro p du J hp f1 f2 hd
      have d640 := due_le (xK x) w 320 0
      have hd' : du = due (xK x) w 320 0 := hd
      obtain ⟨k1, k2⟩ := back J f1 f2
      have hwJ : RowC J 1 w := rowC_cg (f1 _ (by omega) (by omega) (by omega) (by omega) (by omega) (by omega) (by omega)) (f1 _ (by omega) (by omega) (by omega) (by omega) (by omega) (by omega) (by omega)) (f1 _ (by omega) (by omega) (by omega) (by omega) (by omega) (by omega) (by omega)) hw
      have hCJ : kyC J B (xK x) := (k2.2.2 (by omega)).2.1
      have rQ : rd J B 1 = xQ x := (k2.2.2 (by omega)).1
      have kw : ∀ J' : Mm, WFr J J' B → TreeC J' B (xT x) → K (aud x w) J' := fun J' g1 g2 => by
        obtain ⟨k3, k4⟩ := back J' (fun c c2 c10 c11 c12 c13 c14 c24 => by rw [g1 c c2 c10 c11 c12 c13, f1 c c2 c10 c11 c12 c13 c14 c24]) g2
        exact hK J' k3 k4
      have kk := hK J k1 k2
      unfold aud at kk kw
      refine b_ifaults_13 hB (inRx (by omega) (by omega)) (inRn (by omega)) (inRn (by omega)) ⟨fun _ => ?_, fun z => absurd (by omega) z⟩
      rw [c_size f2, wrx (by omega) (by omega), rQ]
      refine ⟨fun z => ?_, fun z => ?_⟩
      · rw [if_pos (show due (xK x) w 320 0 = (lsT (xT x)).length by omega)] at kk
        refine ⟨fun q => ?_, fun q => ?_⟩
        · rw [if_neg (fun c => c.1 q)] at kk
          exact kk
        · refine c_lwc hB hk hCJ hwJ hN f2 hg hl hA (fun J' g1 g2 => ?_)
          have kk := kw J' g1 g2
          rw [if_pos (show due (xK x) w 320 0 = (lsT (xT x)).length by omega)] at kk
          refine ⟨fun c => ?_, fun c => ?_⟩
          · rw [if_neg (fun c' => c'.2 c)] at kk
            exact kk
          · intro v2 e2 _
            rw [wrx (by omega) (by omega)] at e2
            subst e2
            rw [if_pos ⟨q, c⟩] at kk
            exact kk
      · rw [if_neg (show ¬ due (xK x) w 320 0 = (lsT (xT x)).length by omega)] at kk
        intro v2 e2 _
        rw [wrx (by omega) (by omega)] at e2
        subst e2
        refine ⟨fun q => ?_, fun q => ?_⟩
        · rw [if_neg (fun c => c.1 q)] at kk
          exact kk
        · refine c_lwc hB hk hCJ hwJ hN f2 hg hl hA (fun J' g1 g2 => ?_)
          have kk := kw J' g1 g2
          rw [if_neg (show ¬ due (xK x) w 320 0 = (lsT (xT x)).length by omega)] at kk
          refine ⟨fun c => ?_, fun c => ?_⟩
          · rw [if_neg (fun c' => c'.2 c)] at kk
            exact kk
          · intro v3 e3 _
            rw [wrx (by omega) (by omega)] at e3
            subst e3
            rw [if_pos ⟨q, c⟩] at kk
            exact kk
    | succ d ih =>
      intro p du J hp f1 f2 hd
      have d640 := due_le (xK x) w 320 0
      have hd : du + ((enA (xK x) w p).length + (enB (xK x) w p).length + due (xK x) w d (p + 1)) = due (xK x) w 320 0 := hd
      have p320 : p < 320 := by omega
      have rowJ : ∀ J : Mm, (∀ c, c ≠ B + 2 → c ≠ B + 10 → c ≠ B + 11 → c ≠ B + 12 → c ≠ B + 13 → c ≠ B + 14 → c ≠ B + 24 → J c = I c) → imC J 3 p = w.1 p ∧ imC J 5 p = w.2.1 p ∧ kyC J B (xK x) := fun J f1 => ⟨(imC_cg (f1 _ (by omega) (by omega) (by omega) (by omega) (by omega) (by omega) (by omega)) p).trans (hw p p320).1, (imC_cg (f1 _ (by omega) (by omega) (by omega) (by omega) (by omega) (by omega) (by omega)) p).trans (hw p p320).2.1, kyC_cg (f1 _ (by omega) (by omega) (by omega) (by omega) (by omega) (by omega) (by omega)) (f1 _ (by omega) (by omega) (by omega) (by omega) (by omega) (by omega) (by omega)) b2⟩
      obtain ⟨cm, cu, hCJ⟩ := rowJ J f1
      have hinp := hin p p320
      have wp : wr ((p : Int) * 5 + 4) = ((5 * p + 4 : Nat) : Int) := wrn _ (by omega) (by omega)
      have hAl := enA_le (xK x) w p
      have hBl := enB_le (xK x) w p
      refine b_ifaults_13 hB (inRx (by omega) (by omega)) (inRn (by omega)) (inRn (by omega)) ⟨fun z => absurd z (by omega), fun _ => ?_⟩
      rw [wp, Int.toNat_natCast]
      refine ⟨by omega, fun z => ⟨by omega, fun z2 => ?_, fun z2 => ?_⟩, fun z => ?_⟩
      · intro v4 e4 _
        rw [wrn (p + 1) (by omega) (by omega)] at e4
        subst e4
        rw [imC_none z] at cm
        rw [imC_none z2] at cu
        refine ih (p + 1) du J (by omega) f1 f2 ?_
        have eA : enA (xK x) w p = [] := by unfold enA; rw [← cm]
        have eB : enB (xK x) w p = [] := by unfold enB; rw [← cu]
        rw [eA, eB] at hd
        simpa using hd
      · obtain ⟨y, hy⟩ := imC_ex z2
        have cu' := cu
        rw [hy] at cu'
        rw [imC_none z] at cm
        have eA : enA (xK x) w p = [] := by unfold enA; rw [← cm]
        have s1 : sk (xK x) (some y) (w.1 p) = false := by rw [← cm]; rfl
        have eB : enB (xK x) w p = [kE (xK x) y p] := by unfold enB; rw [← cu']; show (if sk (xK x) (some y) (w.1 p) = true then [] else [kE (xK x) y p]) = _; rw [s1]; rfl
        refine callZ_fl (as' := [.inr (2, B, 0), .inr (4, 4, 0), .inl (1, (p : Int)), .inr (4, 2, 0), .inl (1, (p : Int))]) rfl ?_
        refine c_hok_44 hB (Or.inr (Or.inl rfl)) (Or.inl rfl) hk hCJ p320 p320 ?_
        rw [hy, show imC J (2 + 1) p = w.1 p from (rowJ J f1).1, s1]
        refine ⟨fun _ => ?_, fun z3 => absurd rfl z3⟩
        intro v3 e3 _
        rw [wrn (du + 1) (by omega) (by omega)] at e3
        subst e3
        refine callZ_fl (as' := [.inr (2, B, 0), .inr (4, 4, 0), .inl (1, (p : Int))]) rfl ?_
        refine c_missing hB (Or.inr (Or.inl rfl)) hk hCJ f2 hg hl p320 hy (hinp _ (Or.inr (by rw [eB]; exact List.mem_singleton.mpr rfl))) ?_
        intro J4 g1 g2 v2 e2 _ v4 e4 _
        rw [wrn (p + 1) (by omega) (by omega)] at e4
        rw [wrx (by omega) (by omega)] at e2
        subst e4; subst e2
        refine ih (p + 1) (du + 1) J4 (by omega) (fun c c2 c10 c11 c12 c13 c14 c24 => by rw [g1 c c2 c10 c11 c24, f1 c c2 c10 c11 c12 c13 c14 c24]) g2 ?_
        rw [eA, eB] at hd
        simp at hd
        omega
      · intro v3 e3 _
        rw [wrn (du + 1) (by omega) (by omega)] at e3
        subst e3
        obtain ⟨y, hy⟩ := imC_ex z
        have cm' := cm
        rw [hy] at cm'
        have eA : enA (xK x) w p = [kE (xK x) y p] := by unfold enA; rw [← cm']
        refine callZ_fl (as' := [.inr (2, B, 0), .inr (4, 2, 0), .inl (1, (p : Int))]) rfl ?_
        refine c_missing hB (Or.inl rfl) hk hCJ f2 hg hl p320 hy (hinp _ (Or.inl (by rw [eA]; exact List.mem_singleton.mpr rfl))) ?_
        intro J5 g1 g2 v2 e2 _
        rw [wrx (by omega) (by omega)] at e2
        subst e2
        have f5 : ∀ c, c ≠ B + 2 → c ≠ B + 10 → c ≠ B + 11 → c ≠ B + 12 → c ≠ B + 13 → c ≠ B + 14 → c ≠ B + 24 → J5 c = I c := fun c c2 c10 c11 c12 c13 c14 c24 => by rw [g1 c c2 c10 c11 c24, f1 c c2 c10 c11 c12 c13 c14 c24]
        obtain ⟨cm5, cu5, hC5⟩ := rowJ J5 f5
        refine ⟨by omega, fun z2 => ?_, fun z2 => ?_⟩
        · intro v4 e4 _
          rw [wrn (p + 1) (by omega) (by omega)] at e4
          subst e4
          rw [imC_none z2] at cu5
          have eB : enB (xK x) w p = [] := by unfold enB; rw [← cu5]
          refine ih (p + 1) (du + 1) J5 (by omega) f5 g2 ?_
          rw [eA, eB] at hd
          simp at hd
          omega
        · obtain ⟨u, hu⟩ := imC_ex z2
          have cu' := cu5
          rw [hu] at cu'
          refine callZ_fl (as' := [.inr (2, B, 0), .inr (4, 4, 0), .inl (1, (p : Int)), .inr (4, 2, 0), .inl (1, (p : Int))]) rfl ?_
          refine c_hok_44 hB (Or.inr (Or.inl rfl)) (Or.inl rfl) hk hC5 p320 p320 ?_
          rw [hu, show imC J5 (2 + 1) p = w.1 p from cm5]
          cases s1 : sk (xK x) (some u) (w.1 p) with
          | true =>
            refine ⟨fun z3 => absurd z3 (by decide), fun _ => ?_⟩
            intro v4 e4 _
            rw [wrn (p + 1) (by omega) (by omega)] at e4
            subst e4
            have eB : enB (xK x) w p = [] := by unfold enB; rw [← cu']; show (if sk (xK x) (some u) (w.1 p) = true then [] else [kE (xK x) u p]) = _; rw [s1]; rfl
            refine ih (p + 1) (du + 1) J5 (by omega) f5 g2 ?_
            rw [eA, eB] at hd
            simp at hd
            omega
          | false =>
            have eB : enB (xK x) w p = [kE (xK x) u p] := by unfold enB; rw [← cu']; show (if sk (xK x) (some u) (w.1 p) = true then [] else [kE (xK x) u p]) = _; rw [s1]; rfl
            refine ⟨fun _ => ?_, fun z3 => absurd rfl z3⟩
            intro v3 e3 _
            rw [wrn (du + 1 + 1) (by omega) (by omega)] at e3
            subst e3
            refine callZ_fl (as' := [.inr (2, B, 0), .inr (4, 4, 0), .inl (1, (p : Int))]) rfl ?_
            refine c_missing hB (Or.inr (Or.inl rfl)) hk hC5 g2 hg hl p320 hu (hinp _ (Or.inr (by rw [eB]; exact List.mem_singleton.mpr rfl))) ?_
            intro J7 k1 k2 v2 e2 _ v4 e4 _
            rw [wrn (p + 1) (by omega) (by omega)] at e4
            rw [wrx (by omega) (by omega)] at e2
            subst e4; subst e2
            refine ih (p + 1) (du + 1 + 1) J7 (by omega) (fun c c2 c10 c11 c12 c13 c14 c24 => by rw [k1 c c2 c10 c11 c24, f5 c c2 c10 c11 c12 c13 c14 c24]) k2 ?_
            rw [eA, eB] at hd
            simp at hd
            omega
  refine callZ_of rfl (b_ifaults hB ?_)
  refine c_tfaults hB b6 hg hl ?_
  intro I1 f1 f2 v2 e2 _
  subst e2
  exact loop 320 0 0 I1 (by omega) (fun c c2 c10 c11 c12 c13 c14 _ => f1 c c2 c10 c11 c12 c13 c14) f2 (by omega)
