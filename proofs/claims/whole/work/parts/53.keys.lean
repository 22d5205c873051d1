/-! ROWS, KEYS, ENTRIES -/
abbrev F4 : Type := Int × Int × Int × Int
abbrev Im : Type := Option F4
abbrev Ky : Type := Nat × (Nat → Nat)
def fv (x : F4) : Nat → Int
  | 0 => x.1
  | 1 => x.2.1
  | 2 => x.2.2.1
  | _ => x.2.2.2
def imC (I : Mm) (c p : Nat) : Im := if rd I c (5 * p + 4) = 0 then none else some (rd I c (5 * p), rd I c (5 * p + 1), rd I c (5 * p + 2), rd I c (5 * p + 3))
def kyOK (k : Ky) : Prop := 1 ≤ k.1 ∧ k.1 ≤ 3 ∧ ∀ j, j < k.1 → k.2 j < 4
def kyC (I : Mm) (B : Nat) (k : Ky) : Prop := rd I B 2 = k.1 ∧ ∀ j, j < k.1 → rd I (B + 1) j = k.2 j
def kv (k : Ky) (x : F4) (j : Nat) : Int := if j < k.1 then fv x (k.2 j) else 0
def kE (k : Ky) (x : F4) (p : Int) : E := (kv k x 0, kv k x 1, kv k x 2, p)
def sk (k : Ky) (a b : Im) : Bool := match a, b with
  | some x, some y => decide (kE k x 0 = kE k y 0)
  | _, _ => false
def b01 (b : Bool) : Int := if b then 1 else 0
/-- the entry of an image that is like none of two others -/
def nwE (k : Ky) (a b c : Im) (p : Int) : Option E := match a with
  | some x => if sk k a b || sk k a c then none else some (kE k x p)
  | none => none
theorem imC_none {I : Mm} {c p : Nat} (h : rd I c (5 * p + 4) = 0) : imC I c p = none := if_pos h
theorem imC_some {I : Mm} {c p : Nat} (h : ¬ rd I c (5 * p + 4) = 0) : imC I c p = some (rd I c (5 * p), rd I c (5 * p + 1), rd I c (5 * p + 2), rd I c (5 * p + 3)) := if_neg h
theorem imC_fv {I : Mm} {c p f : Nat} {x : F4} (h : imC I c p = some x) (hf : f < 4) : rd I c (5 * p + f) = fv x f := by
  unfold imC at h
  by_cases c : rd I c (5 * p + 4) = 0
  · rw [if_pos c] at h; cases h
  · rw [if_neg c] at h
    cases h
    rcases f with _ | _ | _ | _ | f
    · rfl
    · rfl
    · rfl
    · rfl
    · omega
theorem imC_ex {I : Mm} {c p : Nat} (h : ¬ rd I c (5 * p + 4) = 0) : ∃ x, imC I c p = some x := ⟨_, imC_some h⟩
theorem imC_cg {I J : Mm} {c : Nat} (h : J c = I c) (p : Nat) : imC J c p = imC I c p := by
  unfold imC
  rw [rd_of h, rd_of h, rd_of h, rd_of h, rd_of h]
theorem kE_p {k : Ky} {x y : F4} {p : Int} : kE k x p = kE k y p ↔ kE k x 0 = kE k y 0 := by
  unfold kE
  simp only [Prod.mk.injEq, and_true]
theorem kE_eq {k : Ky} {x y : F4} (h3 : k.1 ≤ 3) (h : ∀ j, j < k.1 → fv x (k.2 j) = fv y (k.2 j)) : kE k x 0 = kE k y 0 := by
  have : ∀ j, kv k x j = kv k y j := by
    intro j
    unfold kv
    by_cases c : j < k.1
    · rw [if_pos c, if_pos c, h j c]
    · rw [if_neg c, if_neg c]
  unfold kE
  rw [this, this, this]
theorem kE_ne {k : Ky} {x y : F4} {j : Nat} (h3 : k.1 ≤ 3) (hj : j < k.1) (h : ¬ fv x (k.2 j) = fv y (k.2 j)) : ¬ kE k x 0 = kE k y 0 := by
  intro z
  have h0 : kv k x 0 = kv k y 0 := congrArg (fun e : E => e.1) z
  have h1 : kv k x 1 = kv k y 1 := congrArg (fun e : E => e.2.1) z
  have h2 : kv k x 2 = kv k y 2 := congrArg (fun e : E => e.2.2.1) z
  have hk : kv k x j = kv k y j := by
    have : j = 0 ∨ j = 1 ∨ j = 2 := by omega
    rcases this with rfl | rfl | rfl
    · exact h0
    · exact h1
    · exact h2
  unfold kv at hk
  rw [if_pos hj, if_pos hj] at hk
  exact h hk
set_option maxHeartbeats 1000000 in
theorem c_hok_44 {B g1 g2 p q : Nat} {I : Mm} {K : Int → Mm → Prop} {fa fb : Nat} {k : Ky} (hB : isX B) (h1' : isG g1) (h2' : isG g2) (hk : kyOK k) (hC : kyC I B k) (hp : p < 320) (hq : q < 320) (h : K (b01 (sk k (imC I (g1 + 1) p) (imC I (g2 + 1) q))) I) : CallZ 18 [.inr (2, B, 0), .inr (4, g1, 0), .inl (fa, (p : Int)), .inr (4, g2, 0), .inl (fb, (q : Int))] I K := by
  have loop : ∀ (x y : F4), imC I (g1 + 1) p = some x → imC I (g2 + 1) q = some y → ∀ (d f : Nat), f + d = k.1 → (∀ j, j < f → fv x (k.2 j) = fv y (k.2 j)) → GoA 18 22 [some (.inr (2, B, 0)), some (.inr (4, g1, 0)), some (.inl (1, (p : Int))), some (.inr (4, g2, 0)), some (.inl (1, (q : Int))), some (.inl (1, (f : Int)))] [] I (rZ K) := by
    intro x y hx hy d
    rw [hx, hy] at h
    have h : K (b01 (decide (kE k x 0 = kE k y 0))) I := h
    induction d with
    | zero =>
      intro f hf ha
      have k3 := hk.2.1
      refine b_hok_44_22 hB h1' h2' (inRn (by omega)) (inRn (by omega)) (inRn (by omega)) ⟨fun _ => ?_, fun z => absurd (by rw [hC.1]; omega) z⟩
      have e : kE k x 0 = kE k y 0 := kE_eq hk.2.1 (fun j hj => ha j (by omega))
      rw [decide_eq_true e] at h
      exact h
    | succ d ih =>
      intro f hf ha
      have k3 := hk.2.1
      have f4 := hk.2.2 f (by omega)
      refine b_hok_44_22 hB h1' h2' (inRn (by omega)) (inRn (by omega)) (inRn (by omega)) ⟨fun z => absurd z (by rw [hC.1]; omega), fun _ => ?_⟩
      rw [Int.toNat_natCast, hC.2 f (by omega), wrn (5 * p + k.2 f) (by omega) (by omega), wrn (5 * q + k.2 f) (by omega) (by omega), Int.toNat_natCast, Int.toNat_natCast, imC_fv hx f4, imC_fv hy f4]
      refine ⟨by omega, by omega, by omega, by omega, fun z => ?_, fun z => ?_⟩
      · intro v5 e5 _
        rw [wrn (f + 1) (by omega) (by omega)] at e5
        subst e5
        refine ih (f + 1) (by omega) (fun j hj => ?_)
        by_cases c : j = f
        · subst c; exact z
        · exact ha j (by omega)
      · rw [decide_eq_false (kE_ne hk.2.1 (by omega) z)] at h
        exact h
  refine callZ_fl (as' := [.inr (2, B, 0), .inr (4, g1, 0), .inl (1, (p : Int)), .inr (4, g2, 0), .inl (1, (q : Int))]) rfl ?_
  refine callZ_of rfl (b_hok_44 hB h1' h2' (inRn (by omega)) (inRn (by omega)) ?_)
  rw [wrn (5 * p + 4) (by omega) (by omega), wrn (5 * q + 4) (by omega) (by omega), Int.toNat_natCast, Int.toNat_natCast]
  refine ⟨by omega, fun z => ?_, fun z => ⟨by omega, fun z2 => ?_, fun z2 => ?_⟩⟩
  · rw [imC_none z] at h
    exact h
  · rw [imC_none z2] at h
    have e : sk k (imC I (g1 + 1) p) none = false := by cases imC I (g1 + 1) p <;> rfl
    rw [e] at h
    exact h
  · obtain ⟨x, hx⟩ := imC_ex z
    obtain ⟨y, hy⟩ := imC_ex z2
    exact loop x y hx hy k.1 0 (by omega) (fun j hj => absurd hj (by omega))
set_option maxHeartbeats 1000000 in
theorem c_hok_45 {B g1 h2 p q : Nat} {I : Mm} {K : Int → Mm → Prop} {fa fb : Nat} {k : Ky} (hB : isX B) (h1' : isG g1) (h2' : isH h2) (hk : kyOK k) (hC : kyC I B k) (hp : p < 320) (hq : q < 1) (h : K (b01 (sk k (imC I (g1 + 1) p) (imC I (h2 + 1) q))) I) : CallZ 18 [.inr (2, B, 0), .inr (4, g1, 0), .inl (fa, (p : Int)), .inr (5, h2, 0), .inl (fb, (q : Int))] I K := by
  have loop : ∀ (x y : F4), imC I (g1 + 1) p = some x → imC I (h2 + 1) q = some y → ∀ (d f : Nat), f + d = k.1 → (∀ j, j < f → fv x (k.2 j) = fv y (k.2 j)) → GoA 18 22 [some (.inr (2, B, 0)), some (.inr (4, g1, 0)), some (.inl (1, (p : Int))), some (.inr (5, h2, 0)), some (.inl (1, (q : Int))), some (.inl (1, (f : Int)))] [] I (rZ K) := by
    intro x y hx hy d
    rw [hx, hy] at h
    have h : K (b01 (decide (kE k x 0 = kE k y 0))) I := h
    induction d with
    | zero =>
      intro f hf ha
      have k3 := hk.2.1
      refine b_hok_45_22 hB h1' h2' (inRn (by omega)) (inRn (by omega)) (inRn (by omega)) ⟨fun _ => ?_, fun z => absurd (by rw [hC.1]; omega) z⟩
      have e : kE k x 0 = kE k y 0 := kE_eq hk.2.1 (fun j hj => ha j (by omega))
      rw [decide_eq_true e] at h
      exact h
    | succ d ih =>
      intro f hf ha
      have k3 := hk.2.1
      have f4 := hk.2.2 f (by omega)
      refine b_hok_45_22 hB h1' h2' (inRn (by omega)) (inRn (by omega)) (inRn (by omega)) ⟨fun z => absurd z (by rw [hC.1]; omega), fun _ => ?_⟩
      rw [Int.toNat_natCast, hC.2 f (by omega), wrn (5 * p + k.2 f) (by omega) (by omega), wrn (5 * q + k.2 f) (by omega) (by omega), Int.toNat_natCast, Int.toNat_natCast, imC_fv hx f4, imC_fv hy f4]
      refine ⟨by omega, by omega, by omega, by omega, fun z => ?_, fun z => ?_⟩
      · intro v5 e5 _
        rw [wrn (f + 1) (by omega) (by omega)] at e5
        subst e5
        refine ih (f + 1) (by omega) (fun j hj => ?_)
        by_cases c : j = f
        · subst c; exact z
        · exact ha j (by omega)
      · rw [decide_eq_false (kE_ne hk.2.1 (by omega) z)] at h
        exact h
  refine callZ_fl (as' := [.inr (2, B, 0), .inr (4, g1, 0), .inl (1, (p : Int)), .inr (5, h2, 0), .inl (1, (q : Int))]) rfl ?_
  refine callZ_of rfl (b_hok_45 hB h1' h2' (inRn (by omega)) (inRn (by omega)) ?_)
  rw [wrn (5 * p + 4) (by omega) (by omega), wrn (5 * q + 4) (by omega) (by omega), Int.toNat_natCast, Int.toNat_natCast]
  refine ⟨by omega, fun z => ?_, fun z => ⟨by omega, fun z2 => ?_, fun z2 => ?_⟩⟩
  · rw [imC_none z] at h
    exact h
  · rw [imC_none z2] at h
    have e : sk k (imC I (g1 + 1) p) none = false := by cases imC I (g1 + 1) p <;> rfl
    rw [e] at h
    exact h
  · obtain ⟨x, hx⟩ := imC_ex z
    obtain ⟨y, hy⟩ := imC_ex z2
    exact loop x y hx hy k.1 0 (by omega) (fun j hj => absurd hj (by omega))
set_option maxHeartbeats 1000000 in
theorem c_hok_54 {B h1 g2 p q : Nat} {I : Mm} {K : Int → Mm → Prop} {fa fb : Nat} {k : Ky} (hB : isX B) (h1' : isH h1) (h2' : isG g2) (hk : kyOK k) (hC : kyC I B k) (hp : p < 1) (hq : q < 320) (h : K (b01 (sk k (imC I (h1 + 1) p) (imC I (g2 + 1) q))) I) : CallZ 18 [.inr (2, B, 0), .inr (5, h1, 0), .inl (fa, (p : Int)), .inr (4, g2, 0), .inl (fb, (q : Int))] I K := by
  have loop : ∀ (x y : F4), imC I (h1 + 1) p = some x → imC I (g2 + 1) q = some y → ∀ (d f : Nat), f + d = k.1 → (∀ j, j < f → fv x (k.2 j) = fv y (k.2 j)) → GoA 18 22 [some (.inr (2, B, 0)), some (.inr (5, h1, 0)), some (.inl (1, (p : Int))), some (.inr (4, g2, 0)), some (.inl (1, (q : Int))), some (.inl (1, (f : Int)))] [] I (rZ K) := by
    intro x y hx hy d
    rw [hx, hy] at h
    have h : K (b01 (decide (kE k x 0 = kE k y 0))) I := h
    induction d with
    | zero =>
      intro f hf ha
      have k3 := hk.2.1
      refine b_hok_54_22 hB h1' h2' (inRn (by omega)) (inRn (by omega)) (inRn (by omega)) ⟨fun _ => ?_, fun z => absurd (by rw [hC.1]; omega) z⟩
      have e : kE k x 0 = kE k y 0 := kE_eq hk.2.1 (fun j hj => ha j (by omega))
      rw [decide_eq_true e] at h
      exact h
    | succ d ih =>
      intro f hf ha
      have k3 := hk.2.1
      have f4 := hk.2.2 f (by omega)
      refine b_hok_54_22 hB h1' h2' (inRn (by omega)) (inRn (by omega)) (inRn (by omega)) ⟨fun z => absurd z (by rw [hC.1]; omega), fun _ => ?_⟩
      rw [Int.toNat_natCast, hC.2 f (by omega), wrn (5 * p + k.2 f) (by omega) (by omega), wrn (5 * q + k.2 f) (by omega) (by omega), Int.toNat_natCast, Int.toNat_natCast, imC_fv hx f4, imC_fv hy f4]
      refine ⟨by omega, by omega, by omega, by omega, fun z => ?_, fun z => ?_⟩
      · intro v5 e5 _
        rw [wrn (f + 1) (by omega) (by omega)] at e5
        subst e5
        refine ih (f + 1) (by omega) (fun j hj => ?_)
        by_cases c : j = f
        · subst c; exact z
        · exact ha j (by omega)
      · rw [decide_eq_false (kE_ne hk.2.1 (by omega) z)] at h
        exact h
  refine callZ_fl (as' := [.inr (2, B, 0), .inr (5, h1, 0), .inl (1, (p : Int)), .inr (4, g2, 0), .inl (1, (q : Int))]) rfl ?_
  refine callZ_of rfl (b_hok_54 hB h1' h2' (inRn (by omega)) (inRn (by omega)) ?_)
  rw [wrn (5 * p + 4) (by omega) (by omega), wrn (5 * q + 4) (by omega) (by omega), Int.toNat_natCast, Int.toNat_natCast]
  refine ⟨by omega, fun z => ?_, fun z => ⟨by omega, fun z2 => ?_, fun z2 => ?_⟩⟩
  · rw [imC_none z] at h
    exact h
  · rw [imC_none z2] at h
    have e : sk k (imC I (h1 + 1) p) none = false := by cases imC I (h1 + 1) p <;> rfl
    rw [e] at h
    exact h
  · obtain ⟨x, hx⟩ := imC_ex z
    obtain ⟨y, hy⟩ := imC_ex z2
    exact loop x y hx hy k.1 0 (by omega) (fun j hj => absurd hj (by omega))
set_option maxHeartbeats 1000000 in
theorem c_mke_4 {B g p pl : Nat} {I : Mm} {K : Mm → Prop} {fa fb : Nat} {k : Ky} {x : F4} (hB : isX B) (hg' : isG g) (hk : kyOK k) (hC : kyC I B k) (hp : p < 320) (hpl : pl < 320) (hx : imC I (g + 1) p = some x) (hgB : g + 1 ≠ B + 24)
    (h : ∀ I' : Mm, (∀ c, c ≠ B + 24 → I' c = I c) → en4 (rd I' (B + 24)) 0 = kE k x pl → K I') : CallV 19 [.inr (2, B, 0), .inr (4, g, 0), .inl (fa, (p : Int)), .inl (fb, (pl : Int))] I K := by
  have loop : ∀ (d f : Nat) (J : Mm), f + d = 3 → (∀ c, c ≠ B + 24 → J c = I c) → (∀ j, j < f → rd J (B + 24) j = kv k x j) → GoA 19 3 [some (.inr (2, B, 0)), some (.inr (4, g, 0)), some (.inl (1, (p : Int))), some (.inl (1, (pl : Int))), some (.inl (1, (f : Int)))] [] J (rV K) := by
    intro d
    induction d with
    | zero =>
      intro f J hf f1 f2
      refine b_mke_4_3 hB hg' (inRn (by omega)) (inRn (by omega)) (inRn (by omega)) ⟨fun _ => ⟨by omega, ?_⟩, fun z => absurd (by omega) z⟩
      intro I1 e1
      refine h I1 (fun c hc => by rw [e1, wt_a _ _ _ _ hc, f1 c hc]) ?_
      unfold en4 kE
      rw [e1, rd_wt_k _ _ _ _ (by omega), rd_wt_k _ _ _ _ (by omega), rd_wt_k _ _ _ _ (by omega), rd_wt_s _ _ _ (inRn (by omega)), f2 _ (by omega), f2 _ (by omega), f2 _ (by omega)]
    | succ d ih =>
      intro f J hf f1 f2
      have nx : ∀ (J1 : Mm) (y : Int), J1 = wt J (B + 24) f y → inR y → y = kv k x f → ∀ v4, v4 = wr ((f : Int) + 1) → inR v4 → GoA 19 3 [some (.inr (2, B, 0)), some (.inr (4, g, 0)), some (.inl (1, (p : Int))), some (.inl (1, (pl : Int))), some (.inl (1, v4))] [] J1 (rV K) := by
        intro J1 y e1 iy ey v4 e4 _
        rw [wrn (f + 1) (by omega) (by omega)] at e4
        subst e4
        refine ih (f + 1) J1 (by omega) (fun c hc => by rw [e1, wt_a _ _ _ _ hc, f1 c hc]) (fun j hj => ?_)
        by_cases c : j = f
        · subst c; rw [e1, rd_wt_s _ _ _ iy, ey]
        · rw [e1, rd_wt_k _ _ _ _ c, f2 j (by omega)]
      have w0 : wr (0 + (f : Int)) = (f : Int) := wrn f (by omega) (by omega)
      have fB : rd J B 2 = k.1 := by rw [rd_of (f1 _ (by omega)), hC.1]
      refine b_mke_4_3 hB hg' (inRn (by omega)) (inRn (by omega)) (inRn (by omega)) ⟨fun z => absurd z (by omega), fun _ => ?_⟩
      rw [w0, Int.toNat_natCast, fB]
      refine ⟨fun z => ⟨by omega, ?_⟩, fun z => ?_⟩
      · intro I2 e2
        refine nx I2 0 e2 ⟨by omega, by omega⟩ ?_
        unfold kv
        rw [if_neg (by omega)]
      · have fl : f < k.1 := by omega
        have f4 := hk.2.2 f fl
        have fF : rd J (B + 1) f = k.2 f := by rw [rd_of (f1 _ (by omega)), hC.2 f fl]
        rw [fF, wrn (5 * p + k.2 f) (by omega) (by omega), Int.toNat_natCast, rd_of (f1 (g + 1) hgB), imC_fv hx f4]
        refine ⟨by omega, by omega, by omega, ?_⟩
        intro I3 e3
        refine nx I3 _ e3 (by rw [← imC_fv hx f4]; exact rd_in _ _ _) ?_
        unfold kv
        rw [if_pos fl]
  refine callV_fl (as' := [.inr (2, B, 0), .inr (4, g, 0), .inl (1, (p : Int)), .inl (1, (pl : Int))]) rfl ?_
  exact callV_of rfl (b_mke_4 hB hg' (inRn (by omega)) (inRn (by omega)) (loop 3 0 I (by omega) (fun _ _ => rfl) (fun j hj => absurd hj (by omega))))
set_option maxHeartbeats 1000000 in
theorem c_mke_5 {B g p pl : Nat} {I : Mm} {K : Mm → Prop} {fa fb : Nat} {k : Ky} {x : F4} (hB : isX B) (hg' : isH g) (hk : kyOK k) (hC : kyC I B k) (hp : p < 1) (hpl : pl < 320) (hx : imC I (g + 1) p = some x) (hgB : g + 1 ≠ B + 24)
    (h : ∀ I' : Mm, (∀ c, c ≠ B + 24 → I' c = I c) → en4 (rd I' (B + 24)) 0 = kE k x pl → K I') : CallV 19 [.inr (2, B, 0), .inr (5, g, 0), .inl (fa, (p : Int)), .inl (fb, (pl : Int))] I K := by
  have loop : ∀ (d f : Nat) (J : Mm), f + d = 3 → (∀ c, c ≠ B + 24 → J c = I c) → (∀ j, j < f → rd J (B + 24) j = kv k x j) → GoA 19 3 [some (.inr (2, B, 0)), some (.inr (5, g, 0)), some (.inl (1, (p : Int))), some (.inl (1, (pl : Int))), some (.inl (1, (f : Int)))] [] J (rV K) := by
    intro d
    induction d with
    | zero =>
      intro f J hf f1 f2
      refine b_mke_5_3 hB hg' (inRn (by omega)) (inRn (by omega)) (inRn (by omega)) ⟨fun _ => ⟨by omega, ?_⟩, fun z => absurd (by omega) z⟩
      intro I1 e1
      refine h I1 (fun c hc => by rw [e1, wt_a _ _ _ _ hc, f1 c hc]) ?_
      unfold en4 kE
      rw [e1, rd_wt_k _ _ _ _ (by omega), rd_wt_k _ _ _ _ (by omega), rd_wt_k _ _ _ _ (by omega), rd_wt_s _ _ _ (inRn (by omega)), f2 _ (by omega), f2 _ (by omega), f2 _ (by omega)]
    | succ d ih =>
      intro f J hf f1 f2
      have nx : ∀ (J1 : Mm) (y : Int), J1 = wt J (B + 24) f y → inR y → y = kv k x f → ∀ v4, v4 = wr ((f : Int) + 1) → inR v4 → GoA 19 3 [some (.inr (2, B, 0)), some (.inr (5, g, 0)), some (.inl (1, (p : Int))), some (.inl (1, (pl : Int))), some (.inl (1, v4))] [] J1 (rV K) := by
        intro J1 y e1 iy ey v4 e4 _
        rw [wrn (f + 1) (by omega) (by omega)] at e4
        subst e4
        refine ih (f + 1) J1 (by omega) (fun c hc => by rw [e1, wt_a _ _ _ _ hc, f1 c hc]) (fun j hj => ?_)
        by_cases c : j = f
        · subst c; rw [e1, rd_wt_s _ _ _ iy, ey]
        · rw [e1, rd_wt_k _ _ _ _ c, f2 j (by omega)]
      have w0 : wr (0 + (f : Int)) = (f : Int) := wrn f (by omega) (by omega)
      have fB : rd J B 2 = k.1 := by rw [rd_of (f1 _ (by omega)), hC.1]
      refine b_mke_5_3 hB hg' (inRn (by omega)) (inRn (by omega)) (inRn (by omega)) ⟨fun z => absurd z (by omega), fun _ => ?_⟩
      rw [w0, Int.toNat_natCast, fB]
      refine ⟨fun z => ⟨by omega, ?_⟩, fun z => ?_⟩
      · intro I2 e2
        refine nx I2 0 e2 ⟨by omega, by omega⟩ ?_
        unfold kv
        rw [if_neg (by omega)]
      · have fl : f < k.1 := by omega
        have f4 := hk.2.2 f fl
        have fF : rd J (B + 1) f = k.2 f := by rw [rd_of (f1 _ (by omega)), hC.2 f fl]
        rw [fF, wrn (5 * p + k.2 f) (by omega) (by omega), Int.toNat_natCast, rd_of (f1 (g + 1) hgB), imC_fv hx f4]
        refine ⟨by omega, by omega, by omega, ?_⟩
        intro I3 e3
        refine nx I3 _ e3 (by rw [← imC_fv hx f4]; exact rd_in _ _ _) ?_
        unfold kv
        rw [if_pos fl]
  refine callV_fl (as' := [.inr (2, B, 0), .inr (5, g, 0), .inl (1, (p : Int)), .inl (1, (pl : Int))]) rfl ?_
  exact callV_of rfl (b_mke_5 hB hg' (inRn (by omega)) (inRn (by omega)) (loop 3 0 I (by omega) (fun _ _ => rfl) (fun j hj => absurd hj (by omega))))
theorem isX_62 {B : Nat} (h : isX B) : 62 ≤ B ∧ B ≤ 187 := by
  obtain ⟨i, hi, rfl⟩ := h
  omega
set_option maxHeartbeats 1000000 in
/-- an entry comes, class: what is to be made -/
theorem c_mkc {B p : Nat} {I : Mm} {K : Int → Mm → Prop} {fa : Nat} {k : Ky} (hB : isX B) (hk : kyOK k) (hC : kyC I B k) (hp : p < 320)
    (h0 : nwE k (imC I 5 p) (imC I 18 0) (imC I 3 p) p = none → K 0 I)
    (h1 : ∀ (e : E) (I' : Mm), nwE k (imC I 5 p) (imC I 18 0) (imC I 3 p) p = some e → (∀ c, c ≠ B + 24 → I' c = I c) → en4 (rd I' (B + 24)) 0 = e → K 1 I') : CallZ 21 [.inr (2, B, 0), .inr (0, 0, 1), .inl (fa, (p : Int)), .inr (0, 0, 17)] I K := by
  have hb := isX_62 hB
  refine callZ_fl (as' := [.inr (2, B, 0), .inr (0, 0, 1), .inl (1, (p : Int)), .inr (0, 0, 17)]) rfl ?_
  refine callZ_of rfl (b_mkc hB (inRn (by omega)) ?_)
  rw [wrn (5 * p + 4) (by omega) (by omega), Int.toNat_natCast]
  refine ⟨by omega, fun z => ?_, fun z => ?_⟩
  · exact h0 (by rw [imC_none z]; rfl)
  · obtain ⟨x, hx⟩ := imC_ex z
    rw [hx] at h0 h1
    refine callZ_fl (as' := [.inr (2, B, 0), .inr (4, 4, 0), .inl (1, (p : Int)), .inr (5, 17, 0), .inl (1, ((0 : Nat) : Int))]) rfl ?_
    refine c_hok_45 hB (Or.inr (Or.inl rfl)) (Or.inr rfl) hk hC hp (by omega) ?_
    rw [hx]
    unfold nwE at h0 h1
    cases s1 : sk k (some x) (imC I 18 0) with
    | true =>
      rw [s1] at h0
      refine ⟨fun z2 => absurd z2 (by decide), fun _ => h0 rfl⟩
    | false =>
      refine ⟨fun _ => ?_, fun z2 => absurd rfl z2⟩
      refine callZ_fl (as' := [.inr (2, B, 0), .inr (4, 4, 0), .inl (1, (p : Int)), .inr (4, 2, 0), .inl (1, (p : Int))]) rfl ?_
      refine c_hok_44 hB (Or.inr (Or.inl rfl)) (Or.inl rfl) hk hC hp hp ?_
      rw [hx]
      cases s2 : sk k (some x) (imC I 3 p) with
      | true =>
        rw [s1, s2] at h0
        refine ⟨fun z2 => absurd z2 (by decide), fun _ => h0 rfl⟩
      | false =>
        refine ⟨fun _ => ?_, fun z2 => absurd rfl z2⟩
        refine callV_fl (as' := [.inr (2, B, 0), .inr (4, 4, 0), .inl (1, (p : Int)), .inl (1, (p : Int))]) rfl ?_
        refine c_mke_4 hB (Or.inr (Or.inl rfl)) hk hC hp hp hx (by omega) ?_
        intro I3 f1 f2
        rw [s1, s2] at h1
        exact h1 _ I3 rfl f1 f2
set_option maxHeartbeats 1000000 in
theorem c_mkg {B p : Nat} {I : Mm} {K : Int → Mm → Prop} {fa : Nat} {k : Ky} (hB : isX B) (hk : kyOK k) (hC : kyC I B k) (hp : p < 320)
    (h0 : nwE k (imC I 18 0) (imC I 5 p) (imC I 3 p) p = none → K 0 I)
    (h1 : ∀ (e : E) (I' : Mm), nwE k (imC I 18 0) (imC I 5 p) (imC I 3 p) p = some e → (∀ c, c ≠ B + 24 → I' c = I c) → en4 (rd I' (B + 24)) 0 = e → K 1 I') : CallZ 22 [.inr (2, B, 0), .inr (0, 0, 1), .inl (fa, (p : Int)), .inr (0, 0, 17)] I K := by
  have hb := isX_62 hB
  refine callZ_fl (as' := [.inr (2, B, 0), .inr (0, 0, 1), .inl (1, (p : Int)), .inr (0, 0, 17)]) rfl ?_
  refine callZ_of rfl (b_mkg hB (inRn (by omega)) ?_)
  refine ⟨by omega, fun z => ?_, fun z => ?_⟩
  · exact h0 (by rw [imC_none (I := I) (c := 18) (p := 0) z]; rfl)
  · obtain ⟨x, hx⟩ := imC_ex (I := I) (c := 18) (p := 0) z
    rw [hx] at h0 h1
    refine callZ_fl (as' := [.inr (2, B, 0), .inr (5, 17, 0), .inl (1, ((0 : Nat) : Int)), .inr (4, 4, 0), .inl (1, (p : Int))]) rfl ?_
    refine c_hok_54 hB (Or.inr rfl) (Or.inr (Or.inl rfl)) hk hC (by omega) hp ?_
    rw [hx]
    unfold nwE at h0 h1
    cases s1 : sk k (some x) (imC I 5 p) with
    | true =>
      rw [s1] at h0
      refine ⟨fun z2 => absurd z2 (by decide), fun _ => h0 rfl⟩
    | false =>
      refine ⟨fun _ => ?_, fun z2 => absurd rfl z2⟩
      refine callZ_fl (as' := [.inr (2, B, 0), .inr (5, 17, 0), .inl (1, ((0 : Nat) : Int)), .inr (4, 2, 0), .inl (1, (p : Int))]) rfl ?_
      refine c_hok_54 hB (Or.inr rfl) (Or.inl rfl) hk hC (by omega) hp ?_
      rw [hx]
      cases s2 : sk k (some x) (imC I 3 p) with
      | true =>
        rw [s1, s2] at h0
        refine ⟨fun z2 => absurd z2 (by decide), fun _ => h0 rfl⟩
      | false =>
        refine ⟨fun _ => ?_, fun z2 => absurd rfl z2⟩
        refine callV_fl (as' := [.inr (2, B, 0), .inr (5, 17, 0), .inl (1, ((0 : Nat) : Int)), .inl (1, (p : Int))]) rfl ?_
        refine c_mke_5 hB (Or.inr rfl) hk hC (by omega) hp hx (by omega) ?_
        intro I3 f1 f2
        rw [s1, s2] at h1
        exact h1 _ I3 rfl f1 f2
