/-! THE REFERENCE: clashes; its state -/
set_option maxHeartbeats 1000000 in
theorem c_shares_00 {I : Mm} {K : Int → Mm → Prop} {i p q fa fb fc fd fe : Nat} {k : Ky} (hi : i < 6) (hk : kyOK k) (hC : kyR I i k) (hp : p < 320) (hq : q < 320) (h : K (b01 (sk k (imR I 214 p) (imR I 214 q))) I) : CallZ 167 [.inr (3, 0, 0), .inl (fa, (i : Int)), .inl (fb, (p : Int)), .inl (fc, (q : Int)), .inl (fd, 0), .inl (fe, 0)] I K := by
  refine callZ_fl (as' := [.inr (3, 0, 0), .inl (1, (i : Int)), .inl (1, (p : Int)), .inl (1, (q : Int)), .inl (1, 0), .inl (1, 0)]) rfl ?_
  refine callZ_of rfl (b_r_sharesKey (inRn (by omega)) (inRn (by omega)) (inRn (by omega)) ⟨by omega, by omega⟩ ⟨by omega, by omega⟩ ?_)
  rw [Int.toNat_natCast, Int.toNat_natCast]
  have Z0 : rd I 216 p = 0 → (rZ K) (some (.inl (2, 0))) I := fun z => by
    rw [show imR I 214 p = none from imG_none z] at h; exact h
  have Z1 : rd I 216 q = 0 → (rZ K) (some (.inl (2, 0))) I := fun z => by
    rw [show imR I 214 q = none from imG_none z, sk_n] at h; exact h
  have CALL : ¬ rd I 216 p = 0 → ¬ rd I 216 q = 0 → CallZ 163 [.inr (3, 0, 0), .inl (1, (i : Int)), .inr (3, 0, 2), .inl (0, 4 * (p : Int)), .inr (3, 0, 2), .inl (0, 4 * (q : Int))] I (fun x1 I1 => (x1 = 0 → (rZ K) (some (.inl (2, 0))) I1) ∧ (¬ x1 = 0 → (rZ K) (some (.inl (2, 1))) I1)) := fun z z2 => by
    obtain ⟨x, hx⟩ : ∃ x, imR I 214 p = some x := imG_ex z
    obtain ⟨y, hy⟩ : ∃ y, imR I 214 q = some y := imG_ex z2
    rw [hx, hy] at h
    have h : K (b01 (decide (kE k x 0 = kE k y 0))) I := h
    refine callZ_fl (as' := [.inr (3, 0, 0), .inl (1, (i : Int)), .inr (7, 214, 0), .inl (1, ((4 * p : Nat) : Int)), .inr (7, 214, 0), .inl (1, ((4 * q : Nat) : Int))]) rfl ?_
    refine c_same_77 (by unfold isA; omega) (by unfold isA; omega) hi hk hC (by omega) (by omega) (fun f hf => imG_fv hx hf) (fun f hf => imG_fv hy hf) ?_
    cases e : decide (kE k x 0 = kE k y 0) with
    | false => rw [e] at h; exact ⟨fun _ => h, fun z => absurd rfl z⟩
    | true => rw [e] at h; exact ⟨fun z => absurd z (by decide), fun _ => h⟩
  exact ⟨fun _ => ⟨by omega, fun z => Z0 z, fun z => ⟨fun _ => ⟨by omega, fun z2 => Z1 z2, fun z2 => ⟨fun _ => ⟨fun _ => CALL z z2, fun c => absurd rfl c⟩, fun c => absurd rfl c⟩⟩, fun c => absurd rfl c⟩⟩, fun c => absurd rfl c⟩
set_option maxHeartbeats 1000000 in
theorem c_shares_01 {I : Mm} {K : Int → Mm → Prop} {i p q fa fb fc fd fe : Nat} {k : Ky} (hi : i < 6) (hk : kyOK k) (hC : kyR I i k) (hp : p < 320) (hq : q < 320) (h : K (b01 (sk k (imR I 214 p) (imR I 213 q))) I) : CallZ 167 [.inr (3, 0, 0), .inl (fa, (i : Int)), .inl (fb, (p : Int)), .inl (fc, (q : Int)), .inl (fd, 0), .inl (fe, 1)] I K := by
  refine callZ_fl (as' := [.inr (3, 0, 0), .inl (1, (i : Int)), .inl (1, (p : Int)), .inl (1, (q : Int)), .inl (1, 0), .inl (1, 1)]) rfl ?_
  refine callZ_of rfl (b_r_sharesKey (inRn (by omega)) (inRn (by omega)) (inRn (by omega)) ⟨by omega, by omega⟩ ⟨by omega, by omega⟩ ?_)
  rw [Int.toNat_natCast, Int.toNat_natCast]
  have Z0 : rd I 216 p = 0 → (rZ K) (some (.inl (2, 0))) I := fun z => by
    rw [show imR I 214 p = none from imG_none z] at h; exact h
  have Z1 : rd I 215 q = 0 → (rZ K) (some (.inl (2, 0))) I := fun z => by
    rw [show imR I 213 q = none from imG_none z, sk_n] at h; exact h
  have CALL : ¬ rd I 216 p = 0 → ¬ rd I 215 q = 0 → CallZ 163 [.inr (3, 0, 0), .inl (1, (i : Int)), .inr (3, 0, 2), .inl (0, 4 * (p : Int)), .inr (3, 0, 1), .inl (0, 4 * (q : Int))] I (fun x1 I1 => (x1 = 0 → (rZ K) (some (.inl (2, 0))) I1) ∧ (¬ x1 = 0 → (rZ K) (some (.inl (2, 1))) I1)) := fun z z2 => by
    obtain ⟨x, hx⟩ : ∃ x, imR I 214 p = some x := imG_ex z
    obtain ⟨y, hy⟩ : ∃ y, imR I 213 q = some y := imG_ex z2
    rw [hx, hy] at h
    have h : K (b01 (decide (kE k x 0 = kE k y 0))) I := h
    refine callZ_fl (as' := [.inr (3, 0, 0), .inl (1, (i : Int)), .inr (7, 214, 0), .inl (1, ((4 * p : Nat) : Int)), .inr (7, 213, 0), .inl (1, ((4 * q : Nat) : Int))]) rfl ?_
    refine c_same_77 (by unfold isA; omega) (by unfold isA; omega) hi hk hC (by omega) (by omega) (fun f hf => imG_fv hx hf) (fun f hf => imG_fv hy hf) ?_
    cases e : decide (kE k x 0 = kE k y 0) with
    | false => rw [e] at h; exact ⟨fun _ => h, fun z => absurd rfl z⟩
    | true => rw [e] at h; exact ⟨fun z => absurd z (by decide), fun _ => h⟩
  exact ⟨fun _ => ⟨by omega, fun z => Z0 z, fun z => ⟨fun c => absurd c (by decide), fun _ => ⟨by omega, fun z2 => Z1 z2, fun z2 => ⟨fun _ => ⟨fun c => absurd c (by decide), fun _ => CALL z z2⟩, fun c => absurd rfl c⟩⟩⟩⟩, fun c => absurd rfl c⟩
set_option maxHeartbeats 1000000 in
theorem c_shares_10 {I : Mm} {K : Int → Mm → Prop} {i p q fa fb fc fd fe : Nat} {k : Ky} (hi : i < 6) (hk : kyOK k) (hC : kyR I i k) (hp : p < 320) (hq : q < 320) (h : K (b01 (sk k (imR I 213 p) (imR I 214 q))) I) : CallZ 167 [.inr (3, 0, 0), .inl (fa, (i : Int)), .inl (fb, (p : Int)), .inl (fc, (q : Int)), .inl (fd, 1), .inl (fe, 0)] I K := by
  refine callZ_fl (as' := [.inr (3, 0, 0), .inl (1, (i : Int)), .inl (1, (p : Int)), .inl (1, (q : Int)), .inl (1, 1), .inl (1, 0)]) rfl ?_
  refine callZ_of rfl (b_r_sharesKey (inRn (by omega)) (inRn (by omega)) (inRn (by omega)) ⟨by omega, by omega⟩ ⟨by omega, by omega⟩ ?_)
  rw [Int.toNat_natCast, Int.toNat_natCast]
  have Z0 : rd I 215 p = 0 → (rZ K) (some (.inl (2, 0))) I := fun z => by
    rw [show imR I 213 p = none from imG_none z] at h; exact h
  have Z1 : rd I 216 q = 0 → (rZ K) (some (.inl (2, 0))) I := fun z => by
    rw [show imR I 214 q = none from imG_none z, sk_n] at h; exact h
  have CALL : ¬ rd I 215 p = 0 → ¬ rd I 216 q = 0 → CallZ 163 [.inr (3, 0, 0), .inl (1, (i : Int)), .inr (3, 0, 1), .inl (0, 4 * (p : Int)), .inr (3, 0, 2), .inl (0, 4 * (q : Int))] I (fun x1 I1 => (x1 = 0 → (rZ K) (some (.inl (2, 0))) I1) ∧ (¬ x1 = 0 → (rZ K) (some (.inl (2, 1))) I1)) := fun z z2 => by
    obtain ⟨x, hx⟩ : ∃ x, imR I 213 p = some x := imG_ex z
    obtain ⟨y, hy⟩ : ∃ y, imR I 214 q = some y := imG_ex z2
    rw [hx, hy] at h
    have h : K (b01 (decide (kE k x 0 = kE k y 0))) I := h
    refine callZ_fl (as' := [.inr (3, 0, 0), .inl (1, (i : Int)), .inr (7, 213, 0), .inl (1, ((4 * p : Nat) : Int)), .inr (7, 214, 0), .inl (1, ((4 * q : Nat) : Int))]) rfl ?_
    refine c_same_77 (by unfold isA; omega) (by unfold isA; omega) hi hk hC (by omega) (by omega) (fun f hf => imG_fv hx hf) (fun f hf => imG_fv hy hf) ?_
    cases e : decide (kE k x 0 = kE k y 0) with
    | false => rw [e] at h; exact ⟨fun _ => h, fun z => absurd rfl z⟩
    | true => rw [e] at h; exact ⟨fun z => absurd z (by decide), fun _ => h⟩
  exact ⟨fun c => absurd c (by decide), fun _ => ⟨by omega, fun z => Z0 z, fun z => ⟨fun _ => ⟨by omega, fun z2 => Z1 z2, fun z2 => ⟨fun c => absurd c (by decide), fun _ => ⟨fun _ => CALL z z2, fun c => absurd rfl c⟩⟩⟩, fun c => absurd rfl c⟩⟩⟩
set_option maxHeartbeats 1000000 in
theorem c_shares_11 {I : Mm} {K : Int → Mm → Prop} {i p q fa fb fc fd fe : Nat} {k : Ky} (hi : i < 6) (hk : kyOK k) (hC : kyR I i k) (hp : p < 320) (hq : q < 320) (h : K (b01 (sk k (imR I 213 p) (imR I 213 q))) I) : CallZ 167 [.inr (3, 0, 0), .inl (fa, (i : Int)), .inl (fb, (p : Int)), .inl (fc, (q : Int)), .inl (fd, 1), .inl (fe, 1)] I K := by
  refine callZ_fl (as' := [.inr (3, 0, 0), .inl (1, (i : Int)), .inl (1, (p : Int)), .inl (1, (q : Int)), .inl (1, 1), .inl (1, 1)]) rfl ?_
  refine callZ_of rfl (b_r_sharesKey (inRn (by omega)) (inRn (by omega)) (inRn (by omega)) ⟨by omega, by omega⟩ ⟨by omega, by omega⟩ ?_)
  rw [Int.toNat_natCast, Int.toNat_natCast]
  have Z0 : rd I 215 p = 0 → (rZ K) (some (.inl (2, 0))) I := fun z => by
    rw [show imR I 213 p = none from imG_none z] at h; exact h
  have Z1 : rd I 215 q = 0 → (rZ K) (some (.inl (2, 0))) I := fun z => by
    rw [show imR I 213 q = none from imG_none z, sk_n] at h; exact h
  have CALL : ¬ rd I 215 p = 0 → ¬ rd I 215 q = 0 → CallZ 163 [.inr (3, 0, 0), .inl (1, (i : Int)), .inr (3, 0, 1), .inl (0, 4 * (p : Int)), .inr (3, 0, 1), .inl (0, 4 * (q : Int))] I (fun x1 I1 => (x1 = 0 → (rZ K) (some (.inl (2, 0))) I1) ∧ (¬ x1 = 0 → (rZ K) (some (.inl (2, 1))) I1)) := fun z z2 => by
    obtain ⟨x, hx⟩ : ∃ x, imR I 213 p = some x := imG_ex z
    obtain ⟨y, hy⟩ : ∃ y, imR I 213 q = some y := imG_ex z2
    rw [hx, hy] at h
    have h : K (b01 (decide (kE k x 0 = kE k y 0))) I := h
    refine callZ_fl (as' := [.inr (3, 0, 0), .inl (1, (i : Int)), .inr (7, 213, 0), .inl (1, ((4 * p : Nat) : Int)), .inr (7, 213, 0), .inl (1, ((4 * q : Nat) : Int))]) rfl ?_
    refine c_same_77 (by unfold isA; omega) (by unfold isA; omega) hi hk hC (by omega) (by omega) (fun f hf => imG_fv hx hf) (fun f hf => imG_fv hy hf) ?_
    cases e : decide (kE k x 0 = kE k y 0) with
    | false => rw [e] at h; exact ⟨fun _ => h, fun z => absurd rfl z⟩
    | true => rw [e] at h; exact ⟨fun z => absurd z (by decide), fun _ => h⟩
  exact ⟨fun c => absurd c (by decide), fun _ => ⟨by omega, fun z => Z0 z, fun z => ⟨fun c => absurd c (by decide), fun _ => ⟨by omega, fun z2 => Z1 z2, fun z2 => ⟨fun c => absurd c (by decide), fun _ => ⟨fun c => absurd c (by decide), fun _ => CALL z z2⟩⟩⟩⟩⟩⟩
set_option maxHeartbeats 1000000 in
theorem c_rclash {I : Mm} {K : Int → Mm → Prop} {i p q fa fb fc : Nat} {k : Ky} {w : Rw} (hi : i < 6) (hk : kyOK k) (hC : kyR I i k) (hp : p < 320) (hq : q < 320) (hw : RowR I w) (h : K (b01 (cl k w p q)) I) : CallZ 168 [.inr (3, 0, 0), .inl (fa, (i : Int)), .inl (fb, (p : Int)), .inl (fc, (q : Int))] I K := by
  refine callZ_fl (as' := [.inr (3, 0, 0), .inl (1, (i : Int)), .inl (1, (p : Int)), .inl (1, (q : Int))]) rfl ?_
  refine callZ_of rfl (b_r_clash (inRn (by omega)) (inRn (by omega)) (inRn (by omega)) ?_)
  rw [Int.toNat_natCast, Int.toNat_natCast]
  obtain ⟨p1, p2, p3, _, _⟩ := hw p hp
  obtain ⟨q1, q2, q3, _, _⟩ := hw q hq
  unfold cl at h
  refine ⟨fun z => ?_, fun z => ?_⟩
  · have e : p = q := by omega
    rw [decide_eq_false (fun c => c e), Bool.false_and] at h
    exact h
  · have e : p ≠ q := by omega
    rw [decide_eq_true e, Bool.true_and] at h
    refine c_shares_00 hi hk hC hp hq ?_
    rw [p2, q2]
    cases e1 : sk k (w.2.1 p) (w.2.1 q) with
    | true => rw [e1] at h; exact ⟨fun z => absurd z (by decide), fun _ => h⟩
    | false =>
      rw [e1, Bool.false_or] at h
      refine ⟨fun _ => ?_, fun z => absurd rfl z⟩
      refine c_shares_11 hi hk hC hp hq ?_
      rw [p1, q1]
      cases e2 : sk k (w.1 p) (w.1 q) with
      | true => rw [e2] at h; exact ⟨fun z => absurd z (by decide), fun _ => h⟩
      | false =>
        rw [e2, Bool.false_or] at h
        have last : (!decide (w.2.2 p ≠ -1 ∧ w.2.2 p = w.2.2 q)) = true → CallZ 167 [.inr (3, 0, 0), .inl (1, (i : Int)), .inl (1, (p : Int)), .inl (1, (q : Int)), .inl (2, 1), .inl (2, 0)] I (fun x3 I3 => (x3 = 0 → CallZ 167 [.inr (3, 0, 0), .inl (1, (i : Int)), .inl (1, (p : Int)), .inl (1, (q : Int)), .inl (2, 0), .inl (2, 1)] I3 (fun x4 I4 => (x4 = 0 → (rZ K) (some (.inl (2, 0))) I4) ∧ (¬ x4 = 0 → (rZ K) (some (.inl (2, 1))) I4))) ∧ (¬ x3 = 0 → (rZ K) (some (.inl (2, 1))) I3)) := fun e3 => by
          rw [e3, Bool.true_and] at h
          refine c_shares_10 hi hk hC hp hq ?_
          rw [p1, q2]
          cases e4 : sk k (w.1 p) (w.2.1 q) with
          | true => rw [e4, Bool.or_true] at h; exact ⟨fun z => absurd z (by decide), fun _ => h⟩
          | false =>
            rw [e4, Bool.or_false] at h
            refine ⟨fun _ => ?_, fun z => absurd rfl z⟩
            refine c_shares_01 hi hk hC hp hq ?_
            rw [p2, q1]
            cases e5 : sk k (w.2.1 p) (w.1 q) with
            | true => rw [e5] at h; exact ⟨fun z => absurd z (by decide), fun _ => h⟩
            | false => rw [e5] at h; exact ⟨fun _ => h, fun z => absurd rfl z⟩
        refine ⟨fun _ => ⟨by omega, ?_⟩, fun z => absurd rfl z⟩
        rw [p3, q3]
        refine ⟨fun z1 => last (by rw [decide_eq_false (fun c => c.1 z1)]; rfl), fun z1 => ⟨by omega, by omega, fun z2 => ?_, fun z2 => last (by rw [decide_eq_false (fun c => z2 c.2)]; rfl)⟩⟩
        rw [decide_eq_true ⟨z1, z2⟩] at h
        exact h
theorem c_rclashOf {I : Mm} {K : Int → Mm → Prop} {i p fa fb : Nat} {k : Ky} {w : Rw} (hi : i < 6) (hk : kyOK k) (hC : kyR I i k) (hp : p < 320) (hw : RowR I w) (h : K (clOf k w p) I) : CallZ 169 [.inr (3, 0, 0), .inl (fa, (i : Int)), .inl (fb, (p : Int))] I K := by
  refine callZ_fl (as' := [.inr (3, 0, 0), .inl (1, (i : Int)), .inl (1, (p : Int))]) rfl ?_
  have loop : ∀ (d q : Nat), q + d = 320 → ff (cl k w p) d q = clOf k w p → GoA 169 2 [some (.inr (3, 0, 0)), some (.inl (1, (i : Int))), some (.inl (1, (p : Int))), some (.inl (1, (q : Int)))] [] I (rZ K) := by
    intro d
    induction d with
    | zero =>
      intro q hq hs
      have hs : (-1 : Int) = clOf k w p := hs
      refine b_r_clashOf_2 (inRn (by omega)) (inRn (by omega)) (inRn (by omega)) ⟨fun _ => ?_, fun z => absurd (by omega) z⟩
      rw [← hs] at h
      exact h
    | succ d ih =>
      intro q hq hs
      have hs : (if cl k w p q then (q : Int) else ff (cl k w p) d (q + 1)) = clOf k w p := hs
      refine b_r_clashOf_2 (inRn (by omega)) (inRn (by omega)) (inRn (by omega)) ⟨fun z => absurd z (by omega), fun _ => ?_⟩
      refine c_rclash hi hk hC hp (by omega) hw ?_
      cases e : cl k w p q with
      | true =>
        rw [e] at hs
        refine ⟨fun z => absurd z (by decide), fun _ => ?_⟩
        have hs : (q : Int) = clOf k w p := hs
        rw [← hs] at h
        exact h
      | false =>
        rw [e] at hs
        refine ⟨fun _ v ev _ => ?_, fun z => absurd rfl z⟩
        rw [wrn (q + 1) (by omega) (by omega)] at ev
        subst ev
        exact ih (q + 1) (by omega) hs
  refine callZ_of rfl (b_r_clashOf (inRn (by omega)) (inRn (by omega)) ?_)
  exact loop 320 0 (by omega) rfl
/-- records; the whole state -/
def RcR (I : Mm) (r p : Nat) (m : Im) (v : Int) : Prop := rd I 220 r = p ∧ p < 320 ∧ imQ I r = m ∧ rd I 223 r = v ∧ bl (rd I 221 r)
theorem rcR_eq {I J : Mm} {r p : Nat} {m : Im} {v : Int} (h0 : rd J 220 r = rd I 220 r) (h1 : rd J 221 r = rd I 221 r) (h3 : rd J 223 r = rd I 223 r) (h2 : ∀ g, g < 4 → rd J 222 (4 * r + g) = rd I 222 (4 * r + g)) (h : RcR I r p m v) : RcR J r p m v := by
  obtain ⟨a, b, c, d, e⟩ := h
  exact ⟨by rw [h0]; exact a, b, by rw [show imQ J r = imQ I r from imG_cp h1 h2]; exact c, by rw [h3]; exact d, by rw [h1]; exact e⟩
def TxR (I : Mm) (t : Nat) (a : Int) (R : List Rc) : Prop := rd I 218 t = a ∧ (¬ a = 0 → rd I 219 t = R.length ∧ R.length ≤ 200 ∧ ∀ j p m v, R[j]? = some (p, m, v) → RcR I (200 * t + j) p m v)
def BdR (I : Mm) (lo hi : Nat → Int) : Prop := ∀ f, f < 4 → rd I 247 f = lo f ∧ rd I 248 f = hi f
def QsR (I : Mm) (q : List Int × Int × Int) : Prop := (rd I 212 36 = q.1.length ∧ q.1.length ≤ 320 ∧ ∀ (j : Nat) (v : Int), q.1[j]? = some v → rd I 249 j = v) ∧ rd I 212 38 = q.2.1 ∧ rd I 212 39 = q.2.2
def RSR (I : Mm) (S : St) : Prop := RowR I (sW S) ∧ (∀ t, t < 8 → TxR I t (sA S t) (sR S t)) ∧ (cnOK I ∧ ∀ i, i < 6 → IxR I i (sX S i)) ∧ BdR I (sLo S) (sHi S) ∧ QsR I (sQ S)
theorem txR_cg {I J : Mm} {t : Nat} {a : Int} {R : List Rc} (h : ∀ c, 218 ≤ c → c ≤ 223 → J c = I c) (hx : TxR I t a R) : TxR J t a R := ⟨by rw [rd_of (h _ (by omega) (by omega))]; exact hx.1, fun z => ⟨by rw [rd_of (h _ (by omega) (by omega))]; exact (hx.2 z).1, (hx.2 z).2.1, fun j p m v hj => rcR_eq (rd_of (h _ (by omega) (by omega)) _) (rd_of (h _ (by omega) (by omega)) _) (rd_of (h _ (by omega) (by omega)) _) (fun g _ => rd_of (h _ (by omega) (by omega)) _) ((hx.2 z).2.2 j p m v hj)⟩⟩
theorem bdR_cg {I J : Mm} {lo hi : Nat → Int} (h1 : J 247 = I 247) (h2 : J 248 = I 248) (h : BdR I lo hi) : BdR J lo hi := fun f hf => by rw [rd_of h1, rd_of h2]; exact h f hf
theorem qsR_cg {I J : Mm} {q : List Int × Int × Int} (h6 : rd J 212 36 = rd I 212 36) (h8 : rd J 212 38 = rd I 212 38) (h9 : rd J 212 39 = rd I 212 39) (h1 : J 249 = I 249) (h : QsR I q) : QsR J q := ⟨⟨by rw [h6]; exact h.1.1, h.1.2.1, fun j v hj => by rw [rd_of h1]; exact h.1.2.2 j v hj⟩, by rw [h8]; exact h.2.1, by rw [h9]; exact h.2.2⟩
theorem cnOK_cg {I J : Mm} (h : J 243 = I 243) (hc : cnOK I) : cnOK J := fun m hm => by rw [rd_of h]; exact hc m hm
theorem ixR_cg {I J : Mm} {i : Nat} {x : Ix} (h : ∀ c, 224 ≤ c → c ≤ 246 → J c = I c) (hx : IxR I i x) : IxR J i x := by
  have := ixR_T (T := xT x) (fun c h1 h2 => h c h1 (by omega)) (x := x) (J := J) (i := i)
  obtain ⟨a, b⟩ := hx
  refine ⟨by rw [rd_of (h _ (by omega) (by omega))]; exact a, fun z => ?_⟩
  exact (this (treeR_of (fun c h1 h2 => h c (by omega) (by omega)) (b z).2.2.2.2.2.1) ⟨a, b⟩).2 z
/-- what is kept, kept -/
theorem rsr_of {I J : Mm} {S : St} (h : ∀ c, 213 ≤ c → c ≤ 249 → J c = I c) (h6 : rd J 212 36 = rd I 212 36) (h8 : rd J 212 38 = rd I 212 38) (h9 : rd J 212 39 = rd I 212 39) (hS : RSR I S) : RSR J S := by
  obtain ⟨r1, r2, ⟨r0, r3⟩, r4, r5⟩ := hS
  exact ⟨rowR_cg (fun c h1 h2 => h c (by omega) (by omega)) r1, fun t ht => txR_cg (fun c h1 h2 => h c (by omega) (by omega)) (r2 t ht), ⟨cnOK_cg (h _ (by omega) (by omega)) r0, fun i hi => ixR_cg (fun c h1 h2 => h c (by omega) (by omega)) (r3 i hi)⟩, bdR_cg (h _ (by omega) (by omega)) (h _ (by omega) (by omega)) r4, qsR_cg h6 h8 h9 (h _ (by omega) (by omega)) r5⟩
def LFr (I J : Mm) : Prop := ∀ c, c < 212 → J c = I c
theorem sok_3 {S : St} (h : SOK S) : ∀ i, i < 6 → ¬ xU (sX S i) = 0 → xU (sX S i) = 1 ∧ kyOK (xK (sX S i)) ∧ good (xT (sX S i)) ∧ (lsT (xT (sX S i))).length ≤ 646 ∧ xP (sX S i) ≤ 40 := fun i hi z => by
  rcases h.2.1 i hi with a | a
  · exact absurd a z
  · exact a
/-- a row written -/
theorem rowR_up {I J : Mm} {w : Rw} {p : Nat} {m : Im} {v : Int} (hp : p < 320) (hw : RowR I w) (h3 : J 213 = I 213) (h5 : J 215 = I 215) (h7 : ∀ q, q ≠ p → rd J 217 q = rd I 217 q) (v7 : rd J 217 p = v) (h6 : ∀ q, q ≠ p → rd J 216 q = rd I 216 q) (v6 : bl (rd J 216 p)) (h4 : ∀ x, (x < 4 * p ∨ 4 * p + 4 ≤ x) → rd J 214 x = rd I 214 x) (v4 : imR J 214 p = m) : RowR J (wRow w p m v) := fun q hq => by
  obtain ⟨a, b, c, d, e⟩ := hw q hq
  refine ⟨by rw [imR_cg h3 h5]; exact a, ?_, ?_, by rw [rd_of h5]; exact d, ?_⟩
  · show imR J 214 q = upN w.2.1 p m q
    by_cases z : q = p
    · subst z; rw [upN_s]; exact v4
    · rw [upN_o z, ← b]
      exact imG_cp (h6 q z) (fun g hg => h4 _ (by omega))
  · show rd J 217 q = upN w.2.2 p v q
    by_cases z : q = p
    · subst z; rw [upN_s]; exact v7
    · rw [upN_o z, ← c]; exact h7 q z
  · by_cases z : q = p
    · subst z; exact v6
    · rw [h6 q z]; exact e
