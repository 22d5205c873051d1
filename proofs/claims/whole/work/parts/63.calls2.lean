/-! LOOKING, class -/
theorem upN_id {α : Type} (f : Nat → α) (k : Nat) : upN f k (f k) = f := by
  funext j
  unfold upN
  by_cases c : j = k
  · rw [if_pos c, c]
  · rw [if_neg c]
theorem sSetX_id (S : St) (i : Nat) : sSetX S i (sX S i) = S := by
  unfold sSetX
  rw [upN_id]
  rfl
theorem rsc_w {I J : Mm} {S : St} {n : Nat} (hn : n < 6) (hU : xU (sX S n) = 1) (hF : WFr I J (62 + 25 * n)) (hT : TreeC J (62 + 25 * n) (xT (sX S n))) (hS : RSC I S) : RSC J S ∧ HFr I J := by
  have := rsc_x hn (fun c hc => hF c (by omega) (by omega) (by omega) (by omega) (by omega)) (ixC_w hF hT hU (hS.2.2.1 n hn)) hS
  rw [sSetX_id] at this
  exact this
def oEnt (S : St) (i p w : Int) : Int := if ¬ isI S i then -101 else if p < 0 ∨ ((lsT (xT (sX S i.toNat))).length : Int) ≤ p then -101 else if w < 0 ∨ 4 < w then -102 else if w = 4 then ((dpT (xT (sX S i.toNat)).1 0 (xT (sX S i.toNat)).2)[p.toNat]?.getD 0) else ew ((lsT (xT (sX S i.toNat)))[p.toNat]?.getD (0, 0, 0, 0)) (if w = 0 then 3 else w.toNat - 1)
theorem dpT_len {α : Type} (h : Nat) (l : Int) (t : Tr α h) : (dpT h l t).length = (inT h t).length := by rw [← dm_snd h l t, List.length_map, dm_len]
set_option maxHeartbeats 1000000 in
theorem c_entry {I : Mm} {K : Int → Mm → Prop} {S : St} {i p w : Int} (ii : inR i) (ip : inR p) (iw : inR w) (hS : RSC I S) (hO : SOK S) (hK : ∀ I' : Mm, HFr I I' → RSC I' S → K (oEnt S i p w) I') : CallZ 111 [.inr (0, 0, 0), .inl (1, i), .inl (1, p), .inl (1, w)] I K := by
  unfold oEnt at hK
  refine ix_cs (i := i) hS hO (fun hn hz => ?_) (fun n e n6 hI u1 u2 k1 g1 l1 p1 hx => ?_)
  · rw [if_pos hn] at hK
    have k := hK I (fun _ _ => rfl) hS
    exact callZ_of rfl (b_c_entry ii ip iw ⟨fun _ => k, fun z => ⟨fun _ => k, fun z2 => ⟨by omega, fun _ => k, fun z3 => absurd (hz z z2) z3⟩⟩⟩)
  · rw [if_neg (fun c => c hI)] at hK
    subst e
    simp only [Int.toNat_natCast] at hK
    obtain ⟨b1, b2, b3, b4, b5, b6, b7, b8⟩ := hx.2.2 (by omega)
    refine callZ_of rfl (b_c_entry ii ip iw ⟨fun z => absurd z (by omega), fun _ => ⟨fun z => absurd z (by omega), fun _ => ⟨by omega, ?_⟩⟩⟩)
    rw [Int.toNat_natCast, u1, c_size b6, wrx (by omega) (by omega)]
    refine ⟨fun z => absurd z (by decide), fun _ => ⟨by omega, fun z => ?_, fun z => ⟨fun z2 => ?_, fun z2 => ?_⟩⟩⟩
    · rw [if_pos (Or.inl z)] at hK
      exact hK I (fun _ _ => rfl) hS
    · rw [if_neg (by omega)] at hK
      obtain ⟨pn, hpn⟩ : ∃ pn : Nat, p = pn := ⟨p.toNat, by omega⟩
      subst hpn
      simp only [Int.toNat_natCast] at hK
      obtain ⟨e, he⟩ : ∃ e, (lsT (xT (sX S n)))[pn]? = some e := ⟨_, List.getElem?_eq_getElem (by omega)⟩
      have wd : ∀ (wn fb : Nat), wn < 4 → (∀ I' : Mm, HFr I I' → RSC I' S → K (ew e wn) I') → CallZ 63 [.inr (2, (62 + 25 * n), 2), .inl (1, (pn : Int)), .inl (fb, (wn : Int))] I (fun x1 I1 => rZ K (some (.inl (1, x1))) I1) := by
        intro wn fb hwn hk
        refine c_wordAt (isX_i n6) b6 g1 (by omega) he hwn ?_
        intro I1 f1 f2
        have := rsc_w n6 u2 f1 f2 hS
        exact hk I1 this.2 this.1
      refine ⟨fun z3 => ?_, fun z3 => ?_, fun z3 => ?_, fun z3 => ?_, fun z3 => ?_, fun z3 => ?_, trivial⟩
      · rw [if_pos z3] at hK
        exact hK I (fun _ _ => rfl) hS
      all_goals subst z3
      · rw [if_neg (by decide), if_neg (by decide), if_pos rfl, he] at hK
        exact wd 3 2 (by omega) hK
      · rw [if_neg (by decide), if_neg (by decide), if_neg (by decide), he] at hK
        exact wd 0 0 (by omega) hK
      · rw [if_neg (by decide), if_neg (by decide), if_neg (by decide), he] at hK
        exact wd 1 0 (by omega) hK
      · rw [if_neg (by decide), if_neg (by decide), if_neg (by decide), he] at hK
        exact wd 2 0 (by omega) hK
      · rw [if_neg (by decide), if_pos rfl] at hK
        obtain ⟨d, hd⟩ : ∃ d, (dpT (xT (sX S n)).1 0 (xT (sX S n)).2)[pn]? = some d := ⟨_, List.getElem?_eq_getElem (by rw [dpT_len]; show pn < (lsT (xT (sX S n))).length; omega)⟩
        rw [hd] at hK
        refine c_depthAt (isX_i n6) b6 g1 (by omega) (by omega) hd ?_
        intro I1 f1 f2
        have := rsc_w n6 u2 f1 f2 hS
        exact hK I1 this.2 this.1
    · rw [if_pos (Or.inr (by omega))] at hK
      exact hK I (fun _ _ => rfl) hS
def oWhere (S : St) (f lo hi : Int) : Int × St := if ¬ (0 ≤ f ∧ f < 4) then (-102, S) else (1, (S.1, S.2.1, S.2.2.1, (upN (sLo S) f.toNat lo, upN (sHi S) f.toNat hi), S.2.2.2.2))
theorem c_where {I : Mm} {K : Int → Mm → Prop} {S : St} {f lo hi : Int} (i_f : inR f) (il : inR lo) (ih : inR hi) (hS : RSC I S) (hK : ∀ I' : Mm, HFr I I' → RSC I' (oWhere S f lo hi).2 → K (oWhere S f lo hi).1 I') : CallZ 114 [.inr (0, 0, 0), .inl (1, f), .inl (1, lo), .inl (1, hi)] I K := by
  unfold oWhere at hK
  refine callZ_of rfl (b_c_where i_f il ih ⟨fun z => ?_, fun z => ⟨fun z2 => ?_, fun z2 => ⟨by omega, ?_⟩⟩⟩)
  · rw [if_pos (by omega)] at hK; exact hK I (fun _ _ => rfl) hS
  · rw [if_pos (by omega)] at hK; exact hK I (fun _ _ => rfl) hS
  · rw [if_neg (by omega)] at hK
    obtain ⟨r1, r2, r3, r4, r5⟩ := hS
    intro I1 e1
    refine ⟨by omega, ?_⟩
    intro I2 e2
    have q : ∀ c, c ≠ 19 → c ≠ 20 → I2 c = I c := fun c c1 c2 => by rw [e2, wt_a _ _ _ _ c2, e1, wt_a _ _ _ _ c1]
    refine hK I2 (fun c hc => q c (by omega) (by omega)) ⟨rowC_cg (q _ (by omega) (by omega)) (q _ (by omega) (by omega)) (q _ (by omega) (by omega)) r1, fun t ht => txC_cg (fun c h1 h2 => q c (by omega) (by omega)) (r2 t ht), fun i hi => ixC_fr (fun c h1 h2 => q c (by omega) (by omega)) (r3 i hi), fun g hg => ?_, qsC_cg (q _ (by omega) (by omega)) (q _ (by omega) (by omega)) r5⟩
    show rd I2 19 g = upN (sLo S) f.toNat lo g ∧ rd I2 20 g = upN (sHi S) f.toNat hi g
    by_cases c : g = f.toNat
    · rw [c, upN_s, upN_s]
      exact ⟨by rw [e2, rd_wt_a _ _ _ _ (by omega), e1, rd_wt_s _ _ _ il], by rw [e2, rd_wt_s _ _ _ ih]⟩
    · rw [upN_o c, upN_o c]
      exact ⟨by rw [e2, rd_wt_a _ _ _ _ (by omega), e1, rd_wt_k _ _ _ _ c]; exact (r4 g hg).1, by rw [e2, rd_wt_k _ _ _ _ c, e1, rd_wt_a _ _ _ _ (by omega)]; exact (r4 g hg).2⟩
def oAns (S : St) (k : Int) : Int := if 0 ≤ k ∧ k < ((sQ S).1.length : Int) then (sQ S).1[k.toNat]?.getD 0 else -1
theorem c_answer {I : Mm} {K : Int → Mm → Prop} {S : St} {k : Int} (ik : inR k) (hS : RSC I S) (hK : K (oAns S k) I) : CallZ 116 [.inr (0, 0, 0), .inl (1, k)] I K := by
  obtain ⟨r1, r2, r3, r4, ⟨q1, q2, q3⟩, q4, q5⟩ := hS
  unfold oAns at hK
  refine callZ_of rfl (b_c_answer ik ⟨fun z => ?_, fun z => ?_⟩)
  · rw [if_neg (by omega)] at hK; exact hK
  · rw [q1]
    refine ⟨fun z2 => ?_, fun z2 => ⟨by omega, ?_⟩⟩
    · rw [if_neg (by omega)] at hK; exact hK
    · rw [if_pos (by omega)] at hK
      obtain ⟨v, hv⟩ : ∃ v, (sQ S).1[k.toNat]? = some v := ⟨_, List.getElem?_eq_getElem (by omega)⟩
      rw [hv] at hK
      rw [q3 _ v hv]
      exact hK
def oAsked (S : St) (w : Int) : Int := if w = 0 then (sQ S).2.1 else if w = 1 then (sQ S).2.2 else -102
theorem c_asked {I : Mm} {K : Int → Mm → Prop} {S : St} {w : Int} (iw : inR w) (hS : RSC I S) (hK : K (oAsked S w) I) : CallZ 117 [.inr (0, 0, 0), .inl (1, w)] I K := by
  obtain ⟨r1, r2, r3, r4, ⟨q1, q2, q3⟩, q4, q5⟩ := hS
  unfold oAsked at hK
  refine callZ_of rfl (b_c_asked iw ⟨fun z => ?_, fun z => ⟨fun z2 => ?_, fun z2 => ?_⟩⟩)
  · rw [if_pos z, ← q4] at hK; exact hK
  · rw [if_neg z, if_pos z2, ← q5] at hK; exact hK
  · rw [if_neg z, if_neg z2] at hK; exact hK
/-- the image that a transaction sees -/
def snI (w : Rw) (t : Int) (p : Nat) : Im := if ¬ t = -1 ∧ w.2.2 p = t then w.2.1 p else w.1 p
abbrev seer (S : St) (t : Int) : Prop := t = -1 ∨ act S t
abbrev isP (p : Int) : Prop := 0 ≤ p ∧ p < 320
def oSees (S : St) (t p : Int) : Int := if ¬ seer S t ∨ ¬ isP p then -101 else b01 (snI (sW S) t p.toNat).isSome
theorem has_b {I : Mm} {c p : Nat} {m : Im} {K : Int → Mm → Prop} (hm : imC I c p = m) (hK : K (b01 m.isSome) I) : (rd I c (5 * p + 4) = 0 → rZ K (some (.inl (2, 0))) I) ∧ (¬ rd I c (5 * p + 4) = 0 → rZ K (some (.inl (2, 1))) I) := by
  refine ⟨fun z => ?_, fun z => ?_⟩
  · rw [imC_none z] at hm; rw [← hm] at hK; exact hK
  · obtain ⟨x, hx⟩ := imC_ex z
    rw [hx] at hm; rw [← hm] at hK; exact hK
set_option maxHeartbeats 1000000 in
theorem c_sees {I : Mm} {K : Int → Mm → Prop} {S : St} {t p : Int} (it : inR t) (ip : inR p) (hS : RSC I S) (hO : SOK S) (hK : K (oSees S t p) I) : CallZ 127 [.inr (0, 0, 0), .inl (1, t), .inl (1, p)] I K := by
  have r1 := hS.1
  unfold oSees at hK
  refine callZ_of rfl (b_c_sees it ip ?_)
  have inner : seer S t → (¬ p < 0 → ¬ 320 ≤ p → (t = (-1) → (0 ≤ (wr ((p * 5) + 4)) ∧ (wr ((p * 5) + 4)) < 1600) ∧ ((rd I 3 (wr ((p * 5) + 4)).toNat = 0 → (rZ K) (some (.inl (2, 0))) I) ∧ (¬ rd I 3 (wr ((p * 5) + 4)).toNat = 0 → (rZ K) (some (.inl (2, 1))) I))) ∧ (¬ t = (-1) → (0 ≤ p ∧ p < 320) ∧ ((rd I 6 p.toNat = t → (0 ≤ (wr ((p * 5) + 4)) ∧ (wr ((p * 5) + 4)) < 1600) ∧ ((rd I 5 (wr ((p * 5) + 4)).toNat = 0 → (rZ K) (some (.inl (2, 0))) I) ∧ (¬ rd I 5 (wr ((p * 5) + 4)).toNat = 0 → (rZ K) (some (.inl (2, 1))) I))) ∧ (¬ rd I 6 p.toNat = t → (0 ≤ (wr ((p * 5) + 4)) ∧ (wr ((p * 5) + 4)) < 1600) ∧ ((rd I 3 (wr ((p * 5) + 4)).toNat = 0 → (rZ K) (some (.inl (2, 0))) I) ∧ (¬ rd I 3 (wr ((p * 5) + 4)).toNat = 0 → (rZ K) (some (.inl (2, 1))) I)))))) := by
    intro hs z1 z2
    rw [if_neg (fun c => c.elim (fun d => d hs) (fun d => d ⟨by omega, by omega⟩))] at hK
    obtain ⟨pn, hpn⟩ : ∃ pn : Nat, p = pn := ⟨p.toNat, by omega⟩
    subst hpn
    have p3 : pn < 320 := by omega
    have w4 : wr ((pn : Int) * 5 + 4) = ((5 * pn + 4 : Nat) : Int) := wrn _ (by omega) (by omega)
    rw [w4]
    simp only [Int.toNat_natCast] at hK ⊢
    have cm : imC I 3 pn = (sW S).1 pn := (r1 pn p3).1
    have cu : imC I 5 pn = (sW S).2.1 pn := (r1 pn p3).2.1
    have wv : rd I 6 pn = (sW S).2.2 pn := (r1 pn p3).2.2
    unfold snI at hK
    refine ⟨fun z => ⟨by omega, ?_⟩, fun z => ⟨by omega, ?_⟩⟩
    · rw [if_neg (fun c => c.1 z)] at hK
      exact has_b cm hK
    · rw [wv]
      refine ⟨fun z3 => ⟨by omega, ?_⟩, fun z3 => ⟨by omega, ?_⟩⟩
      · rw [if_pos ⟨z, z3⟩] at hK
        exact has_b cu hK
      · rw [if_neg (fun c => z3 c.2)] at hK
        exact has_b cm hK
  have bad : ¬ isP p → K (-101) I := fun c => by rw [if_pos (Or.inr c)] at hK; exact hK
  refine ⟨fun z => ⟨fun z1 => bad (fun c => absurd c.1 (by omega)), fun z1 => ⟨fun z2 => bad (fun c => absurd c.2 (by omega)), fun z2 => inner (Or.inl z) z1 z2⟩⟩, fun z => ?_⟩
  refine act_cs (t := t) hS hO (fun hn => ?_) (fun tn e t8 ha hact a0 a1 a2 => ?_)
  · rw [if_pos (Or.inl (fun c => c.elim z hn))] at hK
    exact ⟨fun _ => hK, fun z1 => ⟨fun _ => hK, fun z2 => ⟨by omega, fun _ => hK, fun z3 => absurd (nact hS hn z1 z2) z3⟩⟩⟩
  · subst e
    rw [Int.toNat_natCast, a0]
    exact ⟨fun c => absurd c (by omega), fun _ => ⟨fun c => absurd c (by omega), fun _ => ⟨by omega, fun c => absurd c (by decide), fun _ => ⟨fun z1 => bad (fun c => absurd c.1 (by omega)), fun z1 => ⟨fun z2 => bad (fun c => absurd c.2 (by omega)), fun z2 => inner (Or.inr hact) z1 z2⟩⟩⟩⟩⟩
def fvI (m : Im) (f : Nat) : Int := match m with
  | some x => fv x f
  | none => 0
def oField (S : St) (t p f : Int) : Int := if ¬ seer S t ∨ ¬ isP p then -101 else if ¬ (0 ≤ f ∧ f < 4) then -102 else fvI (snI (sW S) t p.toNat) f.toNat
theorem fv_b {I : Mm} {c p f : Nat} {m : Im} {K : Int → Mm → Prop} (hp : p < 320) (hf : f < 4) (hm : imC I c p = m) (hK : K (fvI m f) I) : (rd I c (5 * p + 4) = 0 → rZ K (some (.inl (2, 0))) I) ∧ (¬ rd I c (5 * p + 4) = 0 → (0 ≤ ((5 * p + f : Nat) : Int) ∧ ((5 * p + f : Nat) : Int) < 1600) ∧ rZ K (some (.inl (1, rd I c (5 * p + f)))) I) := by
  refine ⟨fun z => ?_, fun z => ⟨by omega, ?_⟩⟩
  · rw [imC_none z] at hm; rw [← hm] at hK; exact hK
  · obtain ⟨x, hx⟩ := imC_ex z
    rw [imC_fv hx hf]
    rw [hx] at hm; rw [← hm] at hK; exact hK
set_option maxHeartbeats 1000000 in
theorem c_field {I : Mm} {K : Int → Mm → Prop} {S : St} {t p f : Int} (it : inR t) (ip : inR p) (i_f : inR f) (hS : RSC I S) (hO : SOK S) (hK : K (oField S t p f) I) : CallZ 128 [.inr (0, 0, 0), .inl (1, t), .inl (1, p), .inl (1, f)] I K := by
  have r1 := hS.1
  unfold oField at hK
  refine callZ_of rfl (b_c_field it ip i_f ?_)
  have inner : seer S t → ¬ p < 0 → ¬ 320 ≤ p → ¬ f < 0 → ¬ 4 ≤ f → (t = (-1) → (0 ≤ (wr ((p * 5) + 4)) ∧ (wr ((p * 5) + 4)) < 1600) ∧ ((rd I 3 (wr ((p * 5) + 4)).toNat = 0 → (rZ K) (some (.inl (2, 0))) I) ∧ (¬ rd I 3 (wr ((p * 5) + 4)).toNat = 0 → (0 ≤ (wr ((p * 5) + f)) ∧ (wr ((p * 5) + f)) < 1600) ∧ ((rZ K) (some (.inl (1, rd I 3 (wr ((p * 5) + f)).toNat))) I)))) ∧ (¬ t = (-1) → (0 ≤ p ∧ p < 320) ∧ ((rd I 6 p.toNat = t → (0 ≤ (wr ((p * 5) + 4)) ∧ (wr ((p * 5) + 4)) < 1600) ∧ ((rd I 5 (wr ((p * 5) + 4)).toNat = 0 → (rZ K) (some (.inl (2, 0))) I) ∧ (¬ rd I 5 (wr ((p * 5) + 4)).toNat = 0 → (0 ≤ (wr ((p * 5) + f)) ∧ (wr ((p * 5) + f)) < 1600) ∧ ((rZ K) (some (.inl (1, rd I 5 (wr ((p * 5) + f)).toNat))) I)))) ∧ (¬ rd I 6 p.toNat = t → (0 ≤ (wr ((p * 5) + 4)) ∧ (wr ((p * 5) + 4)) < 1600) ∧ ((rd I 3 (wr ((p * 5) + 4)).toNat = 0 → (rZ K) (some (.inl (2, 0))) I) ∧ (¬ rd I 3 (wr ((p * 5) + 4)).toNat = 0 → (0 ≤ (wr ((p * 5) + f)) ∧ (wr ((p * 5) + f)) < 1600) ∧ ((rZ K) (some (.inl (1, rd I 3 (wr ((p * 5) + f)).toNat))) I)))))) := by
    intro hs z1 z2 z3 z4
    rw [if_neg (fun c => c.elim (fun d => d hs) (fun d => d ⟨by omega, by omega⟩)), if_neg (by omega)] at hK
    obtain ⟨pn, hpn⟩ : ∃ pn : Nat, p = pn := ⟨p.toNat, by omega⟩
    obtain ⟨fn, hfn⟩ : ∃ fn : Nat, f = fn := ⟨f.toNat, by omega⟩
    subst hpn
    subst hfn
    have p3 : pn < 320 := by omega
    have f4 : fn < 4 := by omega
    have w4 : wr ((pn : Int) * 5 + 4) = ((5 * pn + 4 : Nat) : Int) := wrn _ (by omega) (by omega)
    have wf : wr ((pn : Int) * 5 + (fn : Int)) = ((5 * pn + fn : Nat) : Int) := wrn _ (by omega) (by omega)
    rw [w4, wf]
    simp only [Int.toNat_natCast] at hK ⊢
    have cm : imC I 3 pn = (sW S).1 pn := (r1 pn p3).1
    have cu : imC I 5 pn = (sW S).2.1 pn := (r1 pn p3).2.1
    have wv : rd I 6 pn = (sW S).2.2 pn := (r1 pn p3).2.2
    unfold snI at hK
    refine ⟨fun z => ⟨by omega, ?_⟩, fun z => ⟨by omega, ?_⟩⟩
    · rw [if_neg (fun c => c.1 z)] at hK
      exact fv_b p3 f4 cm hK
    · rw [wv]
      refine ⟨fun z3 => ⟨by omega, ?_⟩, fun z3 => ⟨by omega, ?_⟩⟩
      · rw [if_pos ⟨z, z3⟩] at hK
        exact fv_b p3 f4 cu hK
      · rw [if_neg (fun c => z3 c.2)] at hK
        exact fv_b p3 f4 cm hK
  have bad : ¬ isP p → K (-101) I := fun c => by rw [if_pos (Or.inr c)] at hK; exact hK
  have badf : seer S t → isP p → ¬ (0 ≤ f ∧ f < 4) → K (-102) I := fun c d e => by rw [if_neg (fun x => x.elim (fun y => y c) (fun y => y d)), if_pos e] at hK; exact hK
  refine ⟨fun z => ⟨fun z1 => bad (fun c => absurd c.1 (by omega)), fun z1 => ⟨fun z2 => bad (fun c => absurd c.2 (by omega)), fun z2 => ⟨fun z3 => badf (Or.inl z) ⟨by omega, by omega⟩ (by omega), fun z3 => ⟨fun z4 => badf (Or.inl z) ⟨by omega, by omega⟩ (by omega), fun z4 => inner (Or.inl z) z1 z2 z3 z4⟩⟩⟩⟩, fun z => ?_⟩
  refine act_cs (t := t) hS hO (fun hn => ?_) (fun tn e t8 ha hact a0 a1 a2 => ?_)
  · rw [if_pos (Or.inl (fun c => c.elim z hn))] at hK
    exact ⟨fun _ => hK, fun z1 => ⟨fun _ => hK, fun z2 => ⟨by omega, fun _ => hK, fun z3 => absurd (nact hS hn z1 z2) z3⟩⟩⟩
  · subst e
    rw [Int.toNat_natCast, a0]
    exact ⟨fun c => absurd c (by omega), fun _ => ⟨fun c => absurd c (by omega), fun _ => ⟨by omega, fun c => absurd c (by decide), fun _ => ⟨fun z1 => bad (fun c => absurd c.1 (by omega)), fun z1 => ⟨fun z2 => bad (fun c => absurd c.2 (by omega)), fun z2 => ⟨fun z3 => badf (Or.inr hact) ⟨by omega, by omega⟩ (by omega), fun z3 => ⟨fun z4 => badf (Or.inr hact) ⟨by omega, by omega⟩ (by omega), fun z4 => inner (Or.inr hact) z1 z2 z3 z4⟩⟩⟩⟩⟩⟩⟩
def oWriter (S : St) (p : Int) : Int := if isP p then (sW S).2.2 p.toNat else -101
theorem c_writer {I : Mm} {K : Int → Mm → Prop} {S : St} {p : Int} (ip : inR p) (hS : RSC I S) (hK : K (oWriter S p) I) : CallZ 129 [.inr (0, 0, 0), .inl (1, p)] I K := by
  unfold oWriter at hK
  refine callZ_of rfl (b_c_writer ip ⟨fun z => ?_, fun z => ⟨fun z2 => ?_, fun z2 => ⟨by omega, ?_⟩⟩⟩)
  · rw [if_neg (by omega)] at hK; exact hK
  · rw [if_neg (by omega)] at hK; exact hK
  · rw [if_pos ⟨by omega, by omega⟩] at hK
    have wv : rd I 6 p.toNat = (sW S).2.2 p.toNat := (hS.1 p.toNat (by omega)).2.2
    rw [wv]
    exact hK
