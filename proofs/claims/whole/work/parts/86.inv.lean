/-! THE INVARIANT, and what follows of it -/
def XI (X : Nat → Ix) (w : Rw) : Prop := ∀ i, i < 6 → xU (X i) = 0 ∨ CIQ (X i) (ents (xK (X i)) w)
def UI (X : Nat → Ix) (w : Rw) : Prop := ∀ i, i < 6 → gd (X i) = true → noCl (xK (X i)) w
def Inv (S : St) : Prop := (∀ t, t < 8 → sA S t = 0 ∨ sA S t = 1) ∧ RwI (sA S) (sW S) ∧ (∀ t, t < 8 → sA S t = 1 → RI t (sW S) (sR S t).reverse) ∧ XI (sX S) (sW S) ∧ UI (sX S) (sW S)
theorem xTk_s (c : Int) (e : E) (x : Ix) : xQ (xTk c e x) = xQ x ∧ (xS (xTk c e x) = 4 → xS x = 4) := by
  unfold xTk
  split
  · exact ⟨rfl, fun z => z⟩
  · split
    · split
      · exact ⟨rfl, fun z => z⟩
      · exact ⟨rfl, fun z => absurd (show (5 : Int) = 4 from z) (by decide)⟩
    · exact ⟨rfl, fun z => z⟩
theorem xT1_s (c : Int) (o : Option E) (x : Ix) : xQ (xT1 c o x) = xQ x ∧ (xS (xT1 c o x) = 4 → xS x = 4) := by
  cases o with
  | none => exact ⟨rfl, id⟩
  | some e => exact xTk_s c e x
theorem gd_tell {w : Rw} {rep : Im} {p : Nat} {x : Ix} (h : gd (xTell w rep p x) = true) : gd x = true := by
  have hk := xTell_k w rep p x
  unfold gd at h ⊢
  have h := of_decide_eq_true h
  rw [hk.2] at h
  refine decide_eq_true ⟨h.1, ?_⟩
  have h2 := h.2
  unfold xTell at h2
  rw [if_neg h.1] at h2
  have a := xT1_s 0 (nwE (xK x) rep (w.2.1 p) (w.1 p) p) (xT1 1 (nwE (xK x) (w.2.1 p) rep (w.1 p) p) x)
  have b := xT1_s 1 (nwE (xK x) (w.2.1 p) rep (w.1 p) p) x
  exact ⟨by rw [← b.1, ← a.1]; exact h2.1, b.2 (a.2 h2.2)⟩
theorem xi_write {X : Nat → Ix} {w : Rw} {p : Nat} {m : Im} {v : Int} (hp : p < 320) (h : XI X w) : XI (fun i => xTell (wRow w p m v) (w.2.1 p) p (X i)) (wRow w p m v) := fun i hi => by
  have hk := xTell_k (wRow w p m v) (w.2.1 p) p (X i)
  rcases h i hi with c | c
  · exact Or.inl (hk.2.trans c)
  · refine Or.inr ?_
    show CIQ _ (ents (xK (xTell (wRow w p m v) (w.2.1 p) p (X i))) _)
    rw [hk.1]
    exact ci_write rfl hp c
theorem xi_com {X : Nat → Ix} {w : Rw} {p : Nat} (hp : p < 320) (h : XI X w) : XI (fun i => xTell (cmR w p) (w.1 p) p (X i)) (cmR w p) := fun i hi => by
  have hk := xTell_k (cmR w p) (w.1 p) p (X i)
  rcases h i hi with c | c
  · exact Or.inl (hk.2.trans c)
  · refine Or.inr ?_
    show CIQ _ (ents (xK (xTell (cmR w p) (w.1 p) p (X i))) _)
    rw [hk.1]
    exact ci_com rfl hp c
/-- how the indexes' guards come from those before -/
def gdF (X Y : Nat → Ix) : Prop := ∀ i, gd (Y i) = true → gd (X i) = true ∧ xK (Y i) = xK (X i)
theorem gdF_tr {X Y Z : Nat → Ix} (h1 : gdF X Y) (h2 : gdF Y Z) : gdF X Z := fun i h => ⟨(h1 i (h2 i h).1).1, (h2 i h).2.trans (h1 i (h2 i h).1).2⟩
theorem gdF_tell (w : Rw) (rep : Im) (p : Nat) (X : Nat → Ix) : gdF X (fun i => xTell w rep p (X i)) := fun i h => ⟨gd_tell h, (xTell_k w rep p (X i)).1⟩
theorem xi_un : ∀ (l : List Rc) (S : St), (∀ r, r ∈ l → r.1 < 320) → XI (sX S) (sW S) → XI (sX (sUnL l S)) (unRow l (sW S)) ∧ sW (sUnL l S) = unRow l (sW S) ∧ gdF (sX S) (sX (sUnL l S))
  | [], S, _, h => ⟨h, rfl, fun i g => ⟨g, rfl⟩⟩
  | r :: l, S, hl, h => by
    have h1 : XI (sX (sUn1 S r)) (sW (sUn1 S r)) := xi_write (hl r List.mem_cons_self) h
    obtain ⟨a1, a2, a3⟩ := xi_un l (sUn1 S r) (fun r' hr => hl r' (List.mem_cons_of_mem _ hr)) h1
    exact ⟨a1, a2, gdF_tr (gdF_tell _ _ _ _) a3⟩
/-- rows after the places from p on have been committed -/
theorem xi_cm (t : Nat) : ∀ (d p : Nat) (S : St), p + d ≤ 320 → XI (sX S) (sW S) → XI (sX (sCmL t d p S)) (sW (sCmL t d p S)) ∧ gdF (sX S) (sX (sCmL t d p S)) ∧ (∀ q, (q < p ∨ p + d ≤ q ∨ ¬ (sW S).2.2 q = (t : Int)) → (sW (sCmL t d p S)).1 q = (sW S).1 q ∧ (sW (sCmL t d p S)).2.1 q = (sW S).2.1 q ∧ (sW (sCmL t d p S)).2.2 q = (sW S).2.2 q) ∧ (∀ q, p ≤ q → q < p + d → (sW S).2.2 q = (t : Int) → (sW (sCmL t d p S)).1 q = (sW S).2.1 q ∧ (sW (sCmL t d p S)).2.1 q = (sW S).2.1 q ∧ (sW (sCmL t d p S)).2.2 q = -1) ∧ (∀ (s : Nat) (l : List Rc), s ≠ t → RI s (sW S) l → RI s (sW (sCmL t d p S)) l)
  | 0, p, S, _, h => ⟨h, fun i g => ⟨g, rfl⟩, fun q _ => ⟨rfl, rfl, rfl⟩, fun q h1 h2 => absurd h2 (by omega), fun s l _ h => h⟩
  | d + 1, p, S, hp, h => by
    by_cases c : (sW S).2.2 p = (t : Int)
    · have e : sCmL t (d + 1) p S = sCmL t d (p + 1) (sCm1 S p) := by
        show sCmL t d (p + 1) (if (sW S).2.2 p = t then sCm1 S p else S) = _
        rw [if_pos c]
      have h1 : XI (sX (sCm1 S p)) (sW (sCm1 S p)) := xi_com (by omega) h
      obtain ⟨a1, a2, a3, a4, a5⟩ := xi_cm t d (p + 1) (sCm1 S p) (by omega) h1
      have o : ∀ q, q ≠ p → (sW (sCm1 S p)).1 q = (sW S).1 q ∧ (sW (sCm1 S p)).2.1 q = (sW S).2.1 q ∧ (sW (sCm1 S p)).2.2 q = (sW S).2.2 q := fun q hq => ⟨upN_o hq, rfl, upN_o hq⟩
      have v1 : (sW (sCm1 S p)).1 p = (sW S).2.1 p := upN_s
      have v2 : (sW (sCm1 S p)).2.2 p = -1 := upN_s
      rw [e]
      refine ⟨a1, gdF_tr (gdF_tell _ _ _ _) a2, fun q hq => ?_, fun q q1 q2 q3 => ?_, fun s l hs hr => a5 s l hs (RI_c (by rw [c]; omega) hr)⟩
      · have ne : q ≠ p := fun z => by subst z; rcases hq with z | z | z; omega; omega; exact z c
        obtain ⟨o1, o2, o3⟩ := o q ne
        obtain ⟨b1, b2, b3⟩ := a3 q (by
          rcases hq with z | z | z
          · exact Or.inl (by omega)
          · exact Or.inr (Or.inl (by omega))
          · exact Or.inr (Or.inr (by rw [o3]; exact z)))
        exact ⟨b1.trans o1, b2.trans o2, b3.trans o3⟩
      · by_cases cq : q = p
        · subst cq
          obtain ⟨b1, b2, b3⟩ := a3 q (Or.inl (by omega))
          exact ⟨b1.trans v1, b2, b3.trans v2⟩
        · obtain ⟨o1, o2, o3⟩ := o q cq
          obtain ⟨b1, b2, b3⟩ := a4 q (by omega) (by omega) (o3.trans q3)
          exact ⟨b1.trans o2, b2.trans o2, b3⟩
    · have e : sCmL t (d + 1) p S = sCmL t d (p + 1) S := by
        show sCmL t d (p + 1) (if (sW S).2.2 p = t then sCm1 S p else S) = _
        rw [if_neg c]
      obtain ⟨a1, a2, a3, a4, a5⟩ := xi_cm t d (p + 1) S (by omega) h
      rw [e]
      refine ⟨a1, a2, fun q hq => a3 q ?_, fun q q1 q2 q3 => a4 q ?_ (by omega) q3, a5⟩
      · by_cases cq : q = p
        · exact Or.inr (Or.inr (by rw [cq]; exact c))
        · rcases hq with z | z | z
          · exact Or.inl (by omega)
          · exact Or.inr (Or.inl (by omega))
          · exact Or.inr (Or.inr z)
      · have : q ≠ p := fun z => c (by rw [← z]; exact q3)
        omega
theorem rwi_ok {A : Nat → Int} {w : Rw} (h : RwI A w) : wOK w := fun p hp hz => by
  rcases h p hp with c | ⟨t, _, _, ht⟩
  · exact c.2.symm
  · omega
theorem inv_sok {S : St} (h : Inv S) : SOK S := ⟨h.1, fun i hi => (h.2.2.2.1 i hi).elim Or.inl ciq_tl, rwi_ok h.2.1⟩
theorem xi_tl {X : Nat → Ix} {w : Rw} (h : XI X w) : ∀ i, i < 6 → tlOK (X i) := fun i hi => (h i hi).elim Or.inl ciq_tl
theorem inv_suk {S : St} (h : Inv S) : SUK S := by
  refine ⟨fun t ht ha n k i hi => ?_, fun t ht ha k i hk hi => xi_tl (xi_cm t k 0 S (by omega) h.2.2.2.1).1 i hi, fun t ht ha n => ?_⟩
  rotate_left
  · have ri := h.2.2.1 t ht ha
    rw [show (sR S t).reverse = ((sR S t).drop n).reverse ++ ((sR S t).take n).reverse by rw [← List.reverse_append, List.take_append_drop]] at ri
    exact rwi_ok (RwI_un ht ha ri h.2.1)
  have hr := RI_320 (h.2.2.1 t ht ha)
  exact xi_tl (xi_un _ S (fun r hm => hr r (by
    have := List.mem_of_mem_take hm
    rw [List.mem_reverse] at this ⊢
    exact List.mem_of_mem_drop this)) h.2.2.2.1).1 i hi
theorem inv_ciq {S : St} (h : Inv S) {i : Nat} (hi : i < 6) (hU : xU (sX S i) = 1) : CIQ (sX S i) (ents (xK (sX S i)) (sW S)) := by
  rcases h.2.2.2.1 i hi with c | c
  · omega
  · exact c
theorem ciq_all {x : Ix} {k : Ky} {w : Rw} (c : CIQ x (ents k w)) (h3 : xS x = 3 ∨ xS x = 4) (hL : xL x = []) : ∀ e, e ∈ lsT (xT x) ↔ ents k w e := fun e => by
  obtain ⟨a1, a2, a3, a4, a5, a6, a7, a8, a9, a10, a11⟩ := c
  have g0 := a8 (by omega)
  have p40 := a7 (by omega) (by omega)
  have p1 := (a11 (by omega)).1 e
  rw [hL, p40] at p1
  have p1 : inTG x e ↔ _ := p1
  have i2 : inTG x e ↔ e ∈ lsT (xT x) := ⟨fun q => q.elim id (fun q => by rw [g0] at q; cases q), Or.inl⟩
  refine (i2.symm.trans p1).trans ⟨fun q => q.2, fun q => ⟨?_, q⟩⟩
  obtain ⟨p, hp, he⟩ := q
  have := enP_pl he
  omega
theorem alle_of {k k' : Ky} {w : Rw} {T : TS E} (h : ∀ e, e ∈ lsT T ↔ ents k w e) (hk : k' = k) : AllE k' w T := by
  subst hk
  refine ⟨fun e he => ?_, fun p x hp hx => (h _).mpr ⟨p, hp, enP_iff.mpr ?_⟩⟩
  · obtain ⟨p, hp, hE⟩ := (h e).mp he
    have := enP_pl hE
    exact ⟨p, hp, by omega⟩
  · rcases hx with c | c
    · exact Or.inl (by rw [c]; rfl)
    · exact Or.inr (by rw [c]; rfl)
theorem inv_ssk {S : St} (h : Inv S) : SSK S := fun i hi hU n => by
  have := ci_stN n rfl (inv_ciq h hi hU)
  exact ⟨ciq_st this.1, this.1.1, fun h3 hL => alle_of (ciq_all this.1 (Or.inl h3) hL) this.2.1⟩
theorem inv_ss1 {S : St} (h : Inv S) : SS1 S := fun i hi hU n => (ci_stN n rfl (inv_ciq h hi hU)).1.2.2.2.1.1
theorem inv_slk {S : St} (h : Inv S) : SLK S := fun i hi hU h4 => (inv_ciq h hi hU).2.2.2.2.2.2.2.2.1 h4
theorem inv_h5 {S : St} (h : Inv S) : ∀ i, i < 6 → ¬ xU (sX S i) = 0 → 1 ≤ xS (sX S i) ∧ xS (sX S i) ≤ 5 := fun i hi hU => by
  rcases h.2.2.2.1 i hi with c | c
  · exact absurd c hU
  · exact ⟨c.2.2.2.1.1, c.2.2.2.1.2.1⟩
theorem inv_rdy {S : St} (h : Inv S) {i : Nat} (hi : i < 6) (hr : rdy (sX S i) = true) : CIQ (sX S i) (ents (xK (sX S i)) (sW S)) ∧ ∀ e, e ∈ lsT (xT (sX S i)) ↔ ents (xK (sX S i)) (sW S) e := by
  unfold rdy at hr
  have hr := of_decide_eq_true hr
  rcases h.2.2.2.1 i hi with c | c
  · exact absurd c hr.1
  · refine ⟨c, fun e => ?_⟩
    obtain ⟨a1, a2, a3, a4, a5, a6, a7, a8, a9, a10, a11⟩ := c
    have l0 := a9 (by omega)
    have g0 := a8 (by omega)
    have p40 := a7 (by omega) (by omega)
    have p1 := (a11 (by omega)).1 e
    rw [l0, p40] at p1
    have p1 : inTG (sX S i) e ↔ _ := p1
    have i2 : inTG (sX S i) e ↔ e ∈ lsT (xT (sX S i)) := ⟨fun q => q.elim id (fun q => by rw [g0] at q; cases q), Or.inl⟩
    refine (i2.symm.trans p1).trans ⟨fun q => q.2, fun q => ⟨?_, q⟩⟩
    obtain ⟨p, hp, he⟩ := q
    have := enP_pl he
    omega
theorem inv_sak {S : St} (h : Inv S) : SAK S := fun i hi hr => ⟨fun p hp e he => ((inv_rdy h hi hr).2 e).mpr ⟨p, hp, he⟩, alle_of (inv_rdy h hi hr).2 rfl⟩
theorem kI_ew {k : Ky} {m : Im} {p : Nat} {e : E} (h : kI k m p = some e) : ∀ j, k.1 ≤ j → j < 3 → ew e j = 0 := fun j h1 h2 => by
  cases m with
  | none => cases h
  | some x =>
    have : kE k x p = e := Option.some_inj.mp h
    rw [← this]
    have j3 : j = 0 ∨ j = 1 ∨ j = 2 := by omega
    rcases j3 with c | c | c <;> subst c
    · show kv k x 0 = 0; unfold kv; rw [if_neg (by omega)]
    · show kv k x 1 = 0; unfold kv; rw [if_neg (by omega)]
    · show kv k x 2 = 0; unfold kv; rw [if_neg (by omega)]
theorem ents_ew {k : Ky} {w : Rw} {e : E} (h : ents k w e) : ∀ j, k.1 ≤ j → j < 3 → ew e j = 0 := by
  obtain ⟨p, _, he⟩ := h
  exact (enP_iff.mp he).elim kI_ew kI_ew
theorem inv_sqk {S : St} (h : Inv S) : SQK S := fun i hi hr => by
  obtain ⟨hc, hm⟩ := inv_rdy h hi hr
  have pl : ∀ e ∈ lsT (xT (sX S i)), 0 ≤ e.2.2.2 ∧ e.2.2.2 < 320 := fun e he => by
    obtain ⟨p, hp, hE⟩ := (hm e).mp he
    have := enP_pl hE
    omega
  refine ⟨pl, fun t _ => ?_⟩
  have nd : (ixA S i t).Nodup := by
    unfold ixA
    refine List.Pairwise.map (R := fun a b => a.2.2.2 ≠ b.2.2.2) _ (fun a b hab => hab) ?_
    have srt : ((lsT (xT (sX S i))).filter (ixOK S i t)).Pairwise elt := hc.2.2.1.2.filter _
    refine srt.imp_of_mem (fun {a b} ha hb hab hE => ?_)
    have ma := List.mem_filter.mp ha
    have mb := List.mem_filter.mp hb
    have za := ents_ew ((hm a).mp ma.1)
    have zb := ents_ew ((hm b).mp mb.1)
    have ka : hkE (xK (sX S i)) (snI (sW S) t a.2.2.2.toNat) a = true := by
      have := ma.2; unfold ixOK at this; rw [Bool.and_eq_true, Bool.and_eq_true] at this; exact this.2.1
    have kb : hkE (xK (sX S i)) (snI (sW S) t a.2.2.2.toNat) b = true := by
      have := mb.2; unfold ixOK at this; rw [Bool.and_eq_true, Bool.and_eq_true] at this; rw [hE]; exact this.2.1
    unfold hkE at ka kb
    cases hs : snI (sW S) t a.2.2.2.toNat with
    | none => rw [hs] at ka; cases ka
    | some x =>
      rw [hs] at ka kb
      have ka := of_decide_eq_true ka
      have kb := of_decide_eq_true kb
      have eq : ∀ j, j < 3 → ew a j = ew b j := fun j hj => by
        by_cases c : j < (xK (sX S i)).1
        · rw [← ka j c, ← kb j c]
        · rw [za j (by omega) hj, zb j (by omega) hj]
      have e0 : a.1 = b.1 := eq 0 (by omega)
      have e1 : a.2.1 = b.2.1 := eq 1 (by omega)
      have e2 : a.2.2.1 = b.2.2.1 := eq 2 (by omega)
      have : a = b := Prod.ext e0 (Prod.ext e1 (Prod.ext e2 hE))
      subst this
      exact elt_irr _ hab
  have := nd_lenE (m := (List.range 320).map (fun (p : Nat) => (p : Int))) nd (fun v hv => by
    unfold ixA at hv
    obtain ⟨e, he, rfl⟩ := List.mem_map.mp hv
    have := pl e (List.mem_filter.mp he).1
    exact List.mem_map.mpr ⟨e.2.2.2.toNat, List.mem_range.mpr (by omega), by omega⟩)
  simpa using this
theorem anyN_iff {f : Nat → Bool} {d k : Nat} : anyN f d k = true ↔ ∃ j, k ≤ j ∧ j < k + d ∧ f j = true := by
  constructor
  · intro h
    apply Classical.byContradiction
    intro hn
    have : anyN f d k = false := anyN_no (fun j h1 h2 => by
      cases c : f j with
      | false => rfl
      | true => exact absurd ⟨j, h1, h2, c⟩ hn)
    rw [this] at h; cases h
  · rintro ⟨j, h1, h2, h3⟩; exact anyN_yes h1 h2 h3
theorem clS_iff {X : Nat → Ix} {w : Rw} {p : Nat} : clS X w p = true ↔ ∃ i, i < 6 ∧ gd (X i) = true ∧ ¬ clOf (xK (X i)) w p = -1 := by
  unfold clS
  rw [anyN_iff]
  constructor
  · rintro ⟨i, _, h2, h3⟩
    rw [Bool.and_eq_true] at h3
    exact ⟨i, by omega, h3.1, of_decide_eq_true h3.2⟩
  · rintro ⟨i, h1, h2, h3⟩
    exact ⟨i, by omega, by omega, by rw [Bool.and_eq_true]; exact ⟨h2, decide_eq_true h3⟩⟩
/-- looked for at all places of a transaction -/
def unClP (S : St) (t n : Nat) : Bool := anyN (fun q => decide ((sW S).2.2 q = t) && clS (sX S) (unRow ((sR S t).drop n).reverse (sW S)) q) 320 0
theorem inv_unp {S : St} (h : Inv S) : ∀ t n, t < 8 → sA S t = 1 → n ≤ (sR S t).length → unClR S t n = unClP S t n := fun t n ht ha hn => by
  have ri := h.2.2.1 t ht ha
  have mem := RI_mem ri
  have r320 := RI_320 ri
  rw [Bool.eq_iff_iff]
  unfold unClR unClP
  rw [anyN_iff, anyN_iff]
  obtain ⟨w', hw'⟩ : ∃ w', w' = unRow ((sR S t).drop n).reverse (sW S) := ⟨_, rfl⟩
  -- a clash at a place of an undone record
  have mk : ∀ i, i < 6 → gd (sX S i) = true → ∀ r, r ∈ (sR S t).drop n → ¬ clOf (xK (sX S i)) w' r.1 = -1 → ∃ j, 0 ≤ j ∧ j < 0 + 6 ∧ (gd (sX S j) && anyN (ckR S t n j) ((sR S t).length - n) n) = true := fun i hi hg r hr hcl => by
    refine ⟨i, by omega, by omega, ?_⟩
    rw [Bool.and_eq_true]
    refine ⟨hg, anyN_iff.mpr ?_⟩
    obtain ⟨k, hk⟩ := List.mem_iff_getElem?.mp hr
    rw [List.getElem?_drop] at hk
    have kl := (List.getElem?_eq_some_iff.mp hk).1
    refine ⟨n + k, by omega, by omega, ?_⟩
    unfold ckR plR
    rw [hk, ← hw']
    exact decide_eq_true hcl
  constructor
  · rintro ⟨i, _, i6, hi⟩
    rw [Bool.and_eq_true] at hi
    obtain ⟨hg, hk⟩ := hi
    obtain ⟨k, k1, k2, k3⟩ := anyN_iff.mp hk
    unfold ckR at k3
    have k3 := of_decide_eq_true k3
    obtain ⟨r, hr⟩ : ∃ r, (sR S t)[k]? = some r := ⟨_, List.getElem?_eq_getElem (by omega)⟩
    have rm : r ∈ (sR S t).reverse := by rw [List.mem_reverse]; exact List.mem_of_getElem? hr
    have r3 := r320 r rm
    have pr : plR (sR S t) k = r.1 := by unfold plR; rw [hr]
    rw [pr] at k3
    refine ⟨r.1, by omega, by omega, ?_⟩
    rw [Bool.and_eq_true]
    exact ⟨decide_eq_true ((mem r.1 r3).mpr ⟨r, rm, rfl⟩), clS_iff.mpr ⟨i, by omega, hg, k3⟩⟩
  · rintro ⟨q, _, q3, hq⟩
    rw [Bool.and_eq_true] at hq
    obtain ⟨i, i6, hg, hcl⟩ := clS_iff.mp hq.2
    rw [← hw'] at hcl
    by_cases c1 : ∃ r, r ∈ (sR S t).drop n ∧ r.1 = q
    · obtain ⟨r, h1, h2⟩ := c1
      exact mk i i6 hg r h1 (by rw [h2]; exact hcl)
    · obtain ⟨q2, q23, hc2⟩ := clOf_ex hcl
      by_cases c2 : ∃ r, r ∈ (sR S t).drop n ∧ r.1 = q2
      · obtain ⟨r, h1, h2⟩ := c2
        refine mk i i6 hg r h1 ?_
        rw [h2]
        exact clOf_ne (q := q) (by omega) (by rw [cl_sym]; exact hc2)
      · have n1 : ∀ r, r ∈ ((sR S t).drop n).reverse → r.1 ≠ q := fun r hr z => c1 ⟨r, List.mem_reverse.mp hr, z⟩
        have n2 : ∀ r, r ∈ ((sR S t).drop n).reverse → r.1 ≠ q2 := fun r hr z => c2 ⟨r, List.mem_reverse.mp hr, z⟩
        have e := cl_cg (k := xK (sX S i)) (unRow_n (w := sW S) n1) (unRow_n (w := sW S) n2)
        rw [← hw'] at e
        have := h.2.2.2.2 i i6 hg q q2 (by omega) q23
        rw [← e, hc2] at this
        cases this
theorem inv_unc {S : St} (_h : Inv S) : ∀ t n, t < 8 → sA S t = 1 → n ≤ (sR S t).length → unClR S t n = unCl S t n := fun t n ht ha hn => by
  rw [Bool.eq_iff_iff]
  unfold unClR unCl
  rw [anyN_iff, anyN_iff]
  constructor
  · rintro ⟨i, _, i6, hi⟩
    rw [Bool.and_eq_true] at hi
    obtain ⟨k, k1, k2, k3⟩ := anyN_iff.mp hi.2
    exact ⟨k, k1, k2, clS_iff.mpr ⟨i, by omega, hi.1, of_decide_eq_true k3⟩⟩
  · rintro ⟨k, k1, k2, hk⟩
    obtain ⟨i, i6, hg, hcl⟩ := clS_iff.mp hk
    refine ⟨i, by omega, by omega, ?_⟩
    rw [Bool.and_eq_true]
    exact ⟨hg, anyN_iff.mpr ⟨k, k1, k2, decide_eq_true hcl⟩⟩
