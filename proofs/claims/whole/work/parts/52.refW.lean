/-! THE REFERENCE: going through a tree -/
def nsS (I : Mm) : Nat → List Int × List Int := fun n => (seg (fun x : Nat => (x : Int)) (5 * n) (rd I 243 n).toNat, rcs I n)
def WRs (I J : Mm) (l : Int) (Dn : List (Int × Int)) : Prop :=
  (∀ c, c ≠ 212 → c ≠ 251 → c ≠ 252 → c ≠ 253 → c ≠ 254 → J c = I c) ∧ (∀ k, k ≠ 42 → k ≠ 45 → rd J 212 k = rd I 212 k) ∧ rd J 212 42 = l ∧ rd J 212 45 = Dn.length ∧
  ∀ i x, Dn[i]? = some x → rd J 253 i = x.1 ∧ rd J 254 i = x.2
def PAr (J : Mm) (l n k : Nat) (P Q : Nat → Int) : Prop := rd J 251 l = n ∧ rd J 252 l = k ∧ ∀ j, j < l → rd J 251 j = P j ∧ rd J 252 j = Q j
set_option maxHeartbeats 4000000 in
theorem gt_down {l n k s : Nat} {I J : Mm} {Dn : List (Int × Int)} {P Q : Nat → Int} {rt : AR → Mm → Prop} {m1 m2 m3 : Option AV} (h1 : okO m1) (h2 : okO m2) (h3 : okO m3) (nv : n < 2160) (hs : rd I 243 n = s) (hs5 : s ≤ 5) (hk : k ≤ s) (hl : l ≤ 14) (hS : WRs I J l Dn) (hP : PAr J l n k P Q) (hin : ¬ rd I 246 (6 * n) = -1)
    (h : ∀ J2 v2 v3, okO v2 → okO v3 → WRs I J2 ((l + 1 : Nat) : Int) Dn → PAr J2 l n (k + 10) P Q → rd J2 251 (l + 1) = rd I 246 (6 * n + k) → rd J2 252 (l + 1) = 0 → GoA 157 29 [some (.inr (3, 0, 0)), m1, v2, v3] [] J2 rt) : GoA 157 29 [some (.inr (3, 0, 0)), m1, m2, m3] [] J rt := by
  obtain ⟨a1, a2, a3, a4, a5⟩ := hS
  refine b_r_goThrough_29 h1 h2 h3 ?_
  rw [a3, Int.toNat_natCast, hP.1, hP.2.1]
  refine ⟨fun z => absurd z (by omega), fun _ => ⟨by omega, ?_⟩⟩
  intro v2 e2 i2
  subst e2
  refine ⟨by omega, ?_⟩
  intro v3 e3 i3
  subst e3
  have w6 : wr (6 * (n : Int)) = ((6 * n : Nat) : Int) := wrn _ (by omega) (by omega)
  have w7 : wr (6 * (n : Int) + (k : Int)) = ((6 * n + k : Nat) : Int) := wrn _ (by omega) (by omega)
  have r6 : ∀ x, rd J 246 x = rd I 246 x := fun x => rd_of (a1 _ (by omega) (by omega) (by omega) (by omega) (by omega)) x
  rw [Int.toNat_natCast, rd_of (a1 243 (by omega) (by omega) (by omega) (by omega) (by omega)), hs, w6, w7, Int.toNat_natCast, Int.toNat_natCast, r6]
  refine ⟨by omega, fun z => absurd z (by omega), fun _ => ⟨by omega, fun z => absurd z hin, fun _ => ⟨by omega, ?_⟩⟩⟩
  intro I1 e1
  have d1 : rd I1 212 42 = l := by rw [e1, rd_wt_a _ _ _ _ (by omega), a3]
  rw [d1]
  intro I2 e2
  have d2 : rd I2 212 42 = ((l + 1 : Nat) : Int) := by rw [e2, rd_wt_s _ _ _ ⟨by omega, by omega⟩]; rfl
  have k2 : rd I2 246 (6 * n + k) = rd I 246 (6 * n + k) := by rw [e2, rd_wt_a _ _ _ _ (by omega), e1, rd_wt_a _ _ _ _ (by omega), r6]
  rw [d2, Int.toNat_natCast, k2]
  refine ⟨by omega, by omega, ?_⟩
  intro I3 e3
  have d3 : rd I3 212 42 = ((l + 1 : Nat) : Int) := by rw [e3, rd_wt_a _ _ _ _ (by omega), d2]
  rw [d3, Int.toNat_natCast]
  refine ⟨by omega, ?_⟩
  intro I4 e4
  have fr : ∀ c, c ≠ 212 → c ≠ 251 → c ≠ 252 → I4 c = J c := fun c c0 c1 c2 => by rw [e4, wt_a _ _ _ _ c2, e3, wt_a _ _ _ _ c1, e2, wt_a _ _ _ _ c0, e1, wt_a _ _ _ _ c2]
  have q2 : ∀ x, rd I4 252 x = if x = l + 1 then 0 else if x = l then (k : Int) + 10 else rd J 252 x := by
    intro x
    rw [e4, rd_wt, if_pos rfl, wrx (by omega) (by omega)]
    by_cases c : x = l + 1
    · rw [if_pos c, if_pos c]
    · rw [if_neg c, if_neg c, e3, rd_wt_a _ _ _ _ (by omega), e2, rd_wt_a _ _ _ _ (by omega), e1, rd_wt, if_pos rfl, wrx (by omega) (by omega)]
  have q1 : ∀ x, rd I4 251 x = if x = l + 1 then rd I 246 (6 * n + k) else rd J 251 x := by
    intro x
    rw [e4, rd_wt_a _ _ _ _ (by omega), e3, rd_wt, if_pos rfl, wr_of (rd_in _ _ _), e2, rd_wt_a _ _ _ _ (by omega), e1, rd_wt_a _ _ _ _ (by omega)]
  refine h I4 _ _ (okO_s (okF_1 i2 1)) (okO_s (okF_1 i3 1)) ⟨fun c c0 c1 c2 c3 c4 => by rw [fr c c0 c1 c2, a1 c c0 c1 c2 c3 c4], fun x xa xb => by rw [e4, rd_wt_a _ _ _ _ (by omega), e3, rd_wt_a _ _ _ _ (by omega), e2, rd_wt_k _ _ _ _ xa, e1, rd_wt_a _ _ _ _ (by omega), a2 x xa xb], by rw [e4, rd_wt_a _ _ _ _ (by omega), d3], by rw [e4, rd_wt_a _ _ _ _ (by omega), e3, rd_wt_a _ _ _ _ (by omega), e2, rd_wt_k _ _ _ _ (by omega), e1, rd_wt_a _ _ _ _ (by omega), a4], fun x y hx => by rw [rd_of (fr _ (by omega) (by omega) (by omega)), rd_of (fr _ (by omega) (by omega) (by omega))]; exact a5 x y hx⟩ ⟨by rw [q1, if_neg (by omega)]; exact hP.1, by rw [q2, if_neg (by omega), if_pos rfl]; rfl, fun j hj => by rw [q1, q2, if_neg (by omega), if_neg (by omega), if_neg (by omega)]; exact hP.2.2 j hj⟩ (by rw [q1, if_pos rfl]) (by rw [q2, if_pos rfl])
set_option maxHeartbeats 4000000 in
theorem gt_step {l n k tv s : Nat} {I J : Mm} {Dn : List (Int × Int)} {P Q : Nat → Int} {rt : AR → Mm → Prop} {m1 m2 m3 : Option AV} (h1 : okO m1) (h2 : okO m2) (h3 : okO m3) (nv : n < 2160) (hs : rd I 243 n = s) (hs5 : s ≤ 5) (hk : k ≤ s) (hl : l ≤ 14) (hS : WRs I J l Dn) (hP : PAr J l n tv P Q) (hb : k < s → Dn.length < 1800) (htv : (tv = k ∧ rd I 246 (6 * n) = -1) ∨ tv = k + 10)
    (hE : k < s → ∀ J2 v2 v3, okO v2 → okO v3 → WRs I J2 l (Dn ++ [(((5 * n + k : Nat) : Int), (l : Int))]) → PAr J2 l n (k + 1) P Q → GoA 157 29 [some (.inr (3, 0, 0)), m1, v2, v3] [] J2 rt)
    (hO : k = s → ∀ J2 v2 v3, okO v2 → okO v3 → WRs I J2 ((l : Int) - 1) Dn → (∀ j, j < l → rd J2 251 j = P j ∧ rd J2 252 j = Q j) → GoA 157 29 [some (.inr (3, 0, 0)), m1, v2, v3] [] J2 rt) : GoA 157 29 [some (.inr (3, 0, 0)), m1, m2, m3] [] J rt := by
  obtain ⟨a1, a2, a3, a4, a5⟩ := hS
  refine b_r_goThrough_29 h1 h2 h3 ?_
  rw [a3, Int.toNat_natCast, hP.1, hP.2.1]
  refine ⟨fun z => absurd z (by omega), fun _ => ⟨by omega, ?_⟩⟩
  intro v2 e2 i2
  subst e2
  refine ⟨by omega, ?_⟩
  intro v3 e3 i3
  subst e3
  have w6 : wr (6 * (n : Int)) = ((6 * n : Nat) : Int) := wrn _ (by omega) (by omega)
  have r6 : ∀ x, rd J 246 x = rd I 246 x := fun x => rd_of (a1 _ (by omega) (by omega) (by omega) (by omega) (by omega)) x
  have ok2 := okO_s (okF_1 i2 1)
  have okk : okO (some (.inl (1, (k : Int)))) := okO_s (okF_1 (inRn (by omega)) 1)
  have pop : k = s → ∀ I1, I1 = wt J 212 42 ((l : Int) - 1) → GoA 157 29 [some (.inr (3, 0, 0)), m1, some (.inl (1, (n : Int))), some (.inl (1, (k : Int)))] [] I1 rt := by
    intro ks I1 e1
    refine hO ks I1 _ _ ok2 okk ⟨fun c c0 c1 c2 c3 c4 => by rw [e1, wt_a _ _ _ _ c0, a1 c c0 c1 c2 c3 c4], fun x xa xb => by rw [e1, rd_wt_k _ _ _ _ xa, a2 x xa xb], by rw [e1, rd_wt_s _ _ _ ⟨by omega, by omega⟩], by rw [e1, rd_wt_k _ _ _ _ (by omega), a4], fun x y hx => by rw [e1, rd_wt_a _ _ _ _ (by omega), rd_wt_a _ _ _ _ (by omega)]; exact a5 x y hx⟩ (fun j hj => by rw [e1, rd_wt_a _ _ _ _ (by omega), rd_wt_a _ _ _ _ (by omega)]; exact hP.2.2 j hj)
  have emit : k < s → (0 ≤ ((Dn.length : Nat) : Int) ∧ ((Dn.length : Nat) : Int) < 1800) ∧ (∀ I2, I2 = wt J 253 Dn.length ((5 * (n : Int)) + (k : Int)) → (0 ≤ (rd I2 212 45) ∧ (rd I2 212 45) < 1800) ∧ (∀ I3, I3 = wt I2 254 (rd I2 212 45).toNat (rd I2 212 42) → ∀ I4, I4 = wt I3 212 45 ((rd I3 212 45) + 1) → (0 ≤ (rd I4 212 42) ∧ (rd I4 212 42) < 16) ∧ (∀ I5, I5 = wt I4 252 (rd I4 212 42).toNat ((k : Int) + 1) → GoA 157 29 [some (.inr (3, 0, 0)), m1, some (.inl (1, (n : Int))), some (.inl (1, (k : Int)))] [] I5 rt))) := by
    intro ks
    have hb' := hb ks
    refine ⟨by omega, ?_⟩
    intro I2 e2
    have r2 : rd I2 212 45 = Dn.length := by rw [e2, rd_wt_a _ _ _ _ (by omega), a4]
    have d2 : rd I2 212 42 = l := by rw [e2, rd_wt_a _ _ _ _ (by omega), a3]
    rw [r2, d2, Int.toNat_natCast]
    refine ⟨by omega, ?_⟩
    intro I3 e3
    have r3 : rd I3 212 45 = Dn.length := by rw [e3, rd_wt_a _ _ _ _ (by omega), r2]
    rw [r3]
    intro I4 e4
    have d4 : rd I4 212 42 = l := by rw [e4, rd_wt_k _ _ _ _ (by omega), e3, rd_wt_a _ _ _ _ (by omega), d2]
    rw [d4, Int.toNat_natCast]
    refine ⟨by omega, ?_⟩
    intro I5 e5
    have q3 : ∀ x, rd I5 253 x = if x = Dn.length then ((5 * n + k : Nat) : Int) else rd J 253 x := fun x => by
      rw [e5, rd_wt_a _ _ _ _ (by omega), e4, rd_wt_a _ _ _ _ (by omega), e3, rd_wt_a _ _ _ _ (by omega), e2, rd_wt, if_pos rfl, wrn (5 * n + k) (by omega) (by omega)]
    have q4 : ∀ x, rd I5 254 x = if x = Dn.length then (l : Int) else rd J 254 x := fun x => by
      rw [e5, rd_wt_a _ _ _ _ (by omega), e4, rd_wt_a _ _ _ _ (by omega), e3, rd_wt, if_pos rfl, wrn l rfl (by omega), e2, rd_wt_a _ _ _ _ (by omega)]
    refine hE ks I5 _ _ ok2 okk ⟨fun c c0 c1 c2 c3 c4 => by rw [e5, wt_a _ _ _ _ c2, e4, wt_a _ _ _ _ c0, e3, wt_a _ _ _ _ c4, e2, wt_a _ _ _ _ c3, a1 c c0 c1 c2 c3 c4], fun x xa xb => by rw [e5, rd_wt_a _ _ _ _ (by omega), e4, rd_wt_k _ _ _ _ xb, e3, rd_wt_a _ _ _ _ (by omega), e2, rd_wt_a _ _ _ _ (by omega), a2 x xa xb], by rw [e5, rd_wt_a _ _ _ _ (by omega), d4], by rw [e5, rd_wt_a _ _ _ _ (by omega), e4, rd_wt_s _ _ _ ⟨by omega, by omega⟩]; simp, fun x y hx => ?_⟩ ⟨?_, by rw [e5, rd_wt_s _ _ _ ⟨by omega, by omega⟩]; rfl, fun j hj => ?_⟩
    · rw [q3, q4]
      by_cases ci : x < Dn.length
      · rw [List.getElem?_append_left ci] at hx
        rw [if_neg (by omega), if_neg (by omega)]
        exact a5 x y hx
      · have ce : x = Dn.length := by
          have := (List.getElem?_eq_some_iff.mp hx).1
          simp at this
          omega
        subst ce
        simp at hx
        rw [if_pos rfl, if_pos rfl, ← hx]
        exact ⟨rfl, rfl⟩
    · rw [e5, rd_wt_a _ _ _ _ (by omega), e4, rd_wt_a _ _ _ _ (by omega), e3, rd_wt_a _ _ _ _ (by omega), e2, rd_wt_a _ _ _ _ (by omega)]
      exact hP.1
    · have p1 : rd I5 251 j = rd J 251 j := by rw [e5, rd_wt_a _ _ _ _ (by omega), e4, rd_wt_a _ _ _ _ (by omega), e3, rd_wt_a _ _ _ _ (by omega), e2, rd_wt_a _ _ _ _ (by omega)]
      have p2 : rd I5 252 j = rd J 252 j := by rw [e5, rd_wt_k _ _ _ _ (by omega), e4, rd_wt_a _ _ _ _ (by omega), e3, rd_wt_a _ _ _ _ (by omega), e2, rd_wt_a _ _ _ _ (by omega)]
      rw [p1, p2]
      exact hP.2.2 j hj
  rw [Int.toNat_natCast, rd_of (a1 243 (by omega) (by omega) (by omega) (by omega) (by omega)), hs, w6, Int.toNat_natCast, r6, a4, Int.toNat_natCast]
  refine ⟨by omega, fun z => ⟨fun z2 => ?_, fun z2 => ?_⟩, fun z => ⟨by omega, fun z1 => ⟨fun z2 => ?_, fun z2 => ?_⟩, fun z1 => ?_⟩⟩
  · intro v4 e4 _
    have : tv = k := by omega
    subst this
    subst e4
    exact absurd z (by omega)
  · intro v4 e4 _
    have : tv = k + 10 := by omega
    subst this
    rw [wrn k (by omega) (by omega)] at e4
    subst e4
    exact ⟨by omega, fun z3 => pop (by omega), fun z3 => emit (by omega)⟩
  · intro v4 e4 _
    have : tv = k := by omega
    subst this
    subst e4
    exact ⟨by omega, fun z3 => pop (by omega), fun z3 => emit (by omega)⟩
  · exact absurd z (by omega)
  · rcases htv with ⟨h, h'⟩ | h
    · exact absurd h' z1
    · exact absurd z (by omega)
theorem itr_step {X : Type} {K : List X} {u : List X} {D : List (List X)} (h : D.length = K.length) : itr K (u :: D) = u ++ (K.head?.toList ++ itr K.tail D) := by
  cases K with
  | nil =>
    have : D = [] := List.length_eq_zero_iff.mp h
    subst this
    show u = u ++ ([] ++ [])
    simp
  | cons x K => rfl
set_option maxHeartbeats 4000000 in
theorem gt_sub {I : Mm} {i : Nat} {rt : AR → Mm → Prop} {m1 : Option AV} (hi : i < 6) (hc : cnOK I) (h1 : okO m1) : ∀ (g l n : Nat) (J : Mm) (Dn : List (Int × Int)) (P Q : Nat → Int) (m2 m3 : Option AV), l + g ≤ 13 → wfT (VR i) (nsS I) g n → okO m2 → okO m3 → WRs I J l Dn → PAr J l n 0 P Q → Dn.length + (inT g (mkT (nsS I) g n)).length ≤ 1800 →
    (∀ J' v2 v3, okO v2 → okO v3 → WRs I J' ((l : Int) - 1) (Dn ++ dmT g l (mkT (nsS I) g n)) → (∀ j, j < l → rd J' 251 j = P j ∧ rd J' 252 j = Q j) → GoA 157 29 [some (.inr (3, 0, 0)), m1, v2, v3] [] J' rt) →
    GoA 157 29 [some (.inr (3, 0, 0)), m1, m2, m3] [] J rt := by
  intro g
  induction g with
  | zero =>
    intro l n J Dn P Q m2 m3 hlg hw hm2 hm3 hS hP hb hcont
    have nv : n < 2160 := VR_lt hi hw.1
    have s5 := hc n nv
    obtain ⟨s, hs⟩ : ∃ s : Nat, rd I 243 n = s := ⟨(rd I 243 n).toNat, by omega⟩
    have tl : (nsS I n).1.length = s := by show (seg _ _ _).length = s; rw [seg_len, hs, Int.toNat_natCast]
    have leaf : rd I 246 (6 * n) = -1 := by
      obtain ⟨c0, hc0, hc1, hc2⟩ := kidsX hw
      have := (rcs_get (I := I) hc0).1
      rw [hc1 rfl] at this
      exact this
    have bl : Dn.length + (nsS I n).1.length ≤ 1800 := hb
    have nd : ∀ (e k : Nat) (J : Mm) (Dn' : List (Int × Int)) (m2 m3 : Option AV), k + e = s → okO m2 → okO m3 → Dn' = Dn ++ ((nsS I n).1.take k).map (fun x => (x, (l : Int))) → WRs I J l Dn' → PAr J l n k P Q → GoA 157 29 [some (.inr (3, 0, 0)), m1, m2, m3] [] J rt := by
      intro e
      induction e with
      | zero =>
        intro k J Dn' m2 m3 hk h2 h3 hD hS hP
        refine gt_step (k := k) h1 h2 h3 nv hs (by omega) (by omega) (by omega) hS hP (fun z => absurd z (by omega)) (Or.inl ⟨rfl, leaf⟩) (fun z => absurd z (by omega)) (fun _ J2 v2 v3 o2 o3 hS2 hlow => ?_)
        refine hcont J2 v2 v3 o2 o3 ?_ hlow
        show WRs I J2 ((l : Int) - 1) (Dn ++ (nsS I n).1.map (fun x => (x, (l : Int))))
        rw [hD, show k = (nsS I n).1.length by omega, List.take_length] at hS2
        exact hS2
      | succ e ih =>
        intro k J Dn' m2 m3 hk h2 h3 hD hS hP
        have dl : Dn'.length = Dn.length + k := by
          rw [hD, List.length_append, List.length_map, List.length_take]
          omega
        refine gt_step (k := k) h1 h2 h3 nv hs (by omega) (by omega) (by omega) hS hP (fun z => by omega) (Or.inl ⟨rfl, leaf⟩) (fun _ J2 v2 v3 o2 o3 hS2 hP2 => ?_) (fun z => absurd z (by omega))
        refine ih (k + 1) J2 _ v2 v3 (by omega) o2 o3 ?_ hS2 hP2
        rw [hD, List.append_assoc]
        congr 1
        have gk : (nsS I n).1[k]? = some ((5 * n + k : Nat) : Int) := seg_get _ _ (by rw [hs]; omega)
        rw [List.take_add_one, gk]
        simp
    exact nd s 0 J Dn m2 m3 (by omega) hm2 hm3 (by simp) hS hP
  | succ g ih =>
    intro l n J Dn P Q m2 m3 hlg hw hm2 hm3 hS hP hb hcont
    have nv : n < 2160 := VR_lt hi hw.1
    have s5 := hc n nv
    obtain ⟨s, hs⟩ : ∃ s : Nat, rd I 243 n = s := ⟨(rd I 243 n).toNat, by omega⟩
    have tl : (nsS I n).1.length = s := by show (seg _ _ _).length = s; rw [seg_len, hs, Int.toNat_natCast]
    have cl : (nsS I n).2.length = s + 1 := by show (rcs I n).length = s + 1; rw [rcs_len, hs, Int.toNat_natCast]
    have inner : ¬ rd I 246 (6 * n) = -1 := by
      obtain ⟨c0, hc0, hc1, hc2⟩ := kidsX hw
      have h1 := (rcs_get (I := I) hc0).1
      have h2 := hc2 (by omega)
      rw [show 6 * n + 0 = 6 * n by omega] at h1
      omega
    obtain ⟨R, hR⟩ : ∃ R : Nat → List (Int × Int), ∀ k, R k = itr (((nsS I n).1.drop k).map (fun x => (x, (l : Int)))) (((nsS I n).2.drop k).map (fun c => dmT g ((l : Int) + 1) (mkT (nsS I) g c.toNat))) := ⟨_, fun _ => rfl⟩
    have cd : ∀ k, k ≤ s → (nsS I n).2.drop k = rd I 246 (6 * n + k) :: (nsS I n).2.drop (k + 1) := by
      intro k hk
      have h2 : (nsS I n).2[k]? = some (rd I 246 (6 * n + k)) := kidR (I := I) (n := n) (k := k) (by rw [hs]; omega)
      rw [← (List.getElem?_eq_some_iff.mp h2).2, List.getElem_cons_drop]
    have Rs : ∀ k, k < s → R k = dmT g ((l : Int) + 1) (mkT (nsS I) g (rd I 246 (6 * n + k)).toNat) ++ ([(((5 * n + k : Nat) : Int), (l : Int))] ++ R (k + 1)) := by
      intro k hk
      rw [hR, hR, cd k (by omega), List.map_cons, itr_step (by simp; omega)]
      have h1 : (nsS I n).1[k]? = some ((5 * n + k : Nat) : Int) := seg_get _ _ (by rw [hs]; omega)
      have h2 : (nsS I n).1.drop k = ((5 * n + k : Nat) : Int) :: (nsS I n).1.drop (k + 1) := by
        rw [← (List.getElem?_eq_some_iff.mp h1).2, List.getElem_cons_drop]
      rw [h2]
      rfl
    have Re : R s = dmT g ((l : Int) + 1) (mkT (nsS I) g (rd I 246 (6 * n + s)).toNat) := by
      rw [hR, cd s (by omega), List.drop_of_length_le (l := (nsS I n).2) (by omega), List.drop_of_length_le (l := (nsS I n).1) (by omega)]
      rfl
    have R0 : R 0 = dmT (g + 1) l (mkT (nsS I) (g + 1) n) := by
      rw [hR]
      show itr ((nsS I n).1.map (fun x => (x, (l : Int)))) ((nsS I n).2.map (fun c => dmT g ((l : Int) + 1) (mkT (nsS I) g c.toNat))) = itr ((nsS I n).1.map (fun x => (x, (l : Int)))) (((nsS I n).2.map (fun c => mkT (nsS I) g c.toNat)).map (dmT g ((l : Int) + 1)))
      rw [List.map_map]
      rfl
    have nd : ∀ (e k : Nat) (J : Mm) (Dn' : List (Int × Int)) (m2 m3 : Option AV), k + e = s → okO m2 → okO m3 → Dn' ++ R k = Dn ++ R 0 → WRs I J l Dn' → PAr J l n k P Q → GoA 157 29 [some (.inr (3, 0, 0)), m1, m2, m3] [] J rt := by
      intro e
      induction e with
      | zero =>
        intro k J Dn' m2 m3 hk h2 h3 hD hS hP
        have ks : k = s := by omega
        subst ks
        have wk := hw.2.2 (rd I 246 (6 * n + k)) (List.mem_of_getElem? (kidR (I := I) (n := n) (k := k) (by rw [hs]; omega)))
        have lenD : Dn'.length + (R k).length = Dn.length + (R 0).length := by
          have := congrArg List.length hD
          rw [List.length_append, List.length_append] at this
          exact this
        have l0 : Dn.length + (R 0).length ≤ 1800 := by rw [R0, dm_len]; exact hb
        rw [Re, dm_len] at lenD
        refine gt_down (k := k) h1 h2 h3 nv hs (by omega) (by omega) (by omega) hS hP inner (fun J2 v2 v3 o2 o3 hS2 hP2 q1 q2 => ?_)
        refine ih (l + 1) (rd I 246 (6 * n + k)).toNat J2 Dn' (rd J2 251) (rd J2 252) v2 v3 (by omega) wk.2 o2 o3 hS2 ⟨by rw [q1]; omega, by rw [q2]; rfl, fun j _ => ⟨rfl, rfl⟩⟩ (by omega) ?_
        intro J' w2 w3 p2 p3 hS' hlow
        rw [show ((l + 1 : Nat) : Int) - 1 = (l : Int) by omega] at hS'
        refine gt_step (k := k) (tv := k + 10) h1 p2 p3 nv hs (by omega) (by omega) (by omega) hS' ⟨by rw [(hlow l (by omega)).1]; exact hP2.1, by rw [(hlow l (by omega)).2]; exact hP2.2.1, fun j hj => by rw [(hlow j (by omega)).1, (hlow j (by omega)).2]; exact hP2.2.2 j hj⟩ (fun z => absurd z (by omega)) (Or.inr rfl) (fun z => absurd z (by omega)) (fun _ J3 u2 u3 y2 y3 hS3 hlow3 => ?_)
        refine hcont J3 u2 u3 y2 y3 ?_ hlow3
        rw [← R0, ← hD, Re]
        exact hS3
      | succ e ih2 =>
        intro k J Dn' m2 m3 hk h2 h3 hD hS hP
        have kl : k < s := by omega
        have wk := hw.2.2 (rd I 246 (6 * n + k)) (List.mem_of_getElem? (kidR (I := I) (n := n) (k := k) (by rw [hs]; omega)))
        have lenD : Dn'.length + (R k).length = Dn.length + (R 0).length := by
          have := congrArg List.length hD
          rw [List.length_append, List.length_append] at this
          exact this
        have l0 : Dn.length + (R 0).length ≤ 1800 := by rw [R0, dm_len]; exact hb
        rw [Rs k kl, List.length_append, List.length_append, dm_len, List.length_singleton] at lenD
        refine gt_down (k := k) h1 h2 h3 nv hs (by omega) (by omega) (by omega) hS hP inner (fun J2 v2 v3 o2 o3 hS2 hP2 q1 q2 => ?_)
        refine ih (l + 1) (rd I 246 (6 * n + k)).toNat J2 Dn' (rd J2 251) (rd J2 252) v2 v3 (by omega) wk.2 o2 o3 hS2 ⟨by rw [q1]; omega, by rw [q2]; rfl, fun j _ => ⟨rfl, rfl⟩⟩ (by omega) ?_
        intro J' w2 w3 p2 p3 hS' hlow
        rw [show ((l + 1 : Nat) : Int) - 1 = (l : Int) by omega] at hS'
        refine gt_step (k := k) (tv := k + 10) h1 p2 p3 nv hs (by omega) (by omega) (by omega) hS' ⟨by rw [(hlow l (by omega)).1]; exact hP2.1, by rw [(hlow l (by omega)).2]; exact hP2.2.1, fun j hj => by rw [(hlow j (by omega)).1, (hlow j (by omega)).2]; exact hP2.2.2 j hj⟩ (fun z => by rw [List.length_append, dm_len]; omega) (Or.inr rfl) (fun _ J3 u2 u3 y2 y3 hS3 hP3 => ?_) (fun z => absurd z (by omega))
        refine ih2 (k + 1) J3 _ u2 u3 (by omega) y2 y3 ?_ hS3 hP3
        rw [← hD, Rs k kl, List.append_assoc, List.append_assoc]
        rfl
    exact nd s 0 J Dn m2 m3 (by omega) hm2 hm3 rfl hS hP
theorem nsS_R (I : Mm) : (fun m => ((nsS I m).1.map (fun x => sE I x.toNat), (nsS I m).2)) = nsR I := by
  funext m
  unfold nsS nsR rks
  congr 1
  unfold seg sgA
  rw [List.map_map]
  rfl
theorem wfS {I : Mm} {i h r : Nat} (hw : wfT (VR i) (nsR I) h r) : wfT (VR i) (nsS I) h r :=
  wfT_ns (ns := nsR I) (ns' := nsS I) (fun _ => rfl) (fun m => by show (seg _ _ _).length = (rks I m).length; rw [seg_len, rks_len]) h r hw
set_option maxHeartbeats 2000000 in
theorem c_goThrough {I : Mm} {K : Mm → Prop} {i fa : Nat} {T : TS E} (hi : i < 6) (hT : TreeR I i T) (hg : good T) (hl : (lsT T).length ≤ 648)
    (hK : ∀ I' : Mm, (∀ c, c ≠ 212 → c ≠ 251 → c ≠ 252 → c ≠ 253 → c ≠ 254 → I' c = I c) → (∀ k, k ≠ 42 → k ≠ 45 → rd I' 212 k = rd I 212 k) → rd I' 212 45 = (lsT T).length → (∀ p e, (lsT T)[p]? = some e → ∃ q : Nat, rd I' 253 p = q ∧ q < 10800 ∧ sE I q = e ∧ (dpT T.1 0 T.2)[p]? = some (rd I' 254 p)) → K I') : CallV 157 [.inr (3, 0, 0), .inl (fa, (i : Int))] I K := by
  obtain ⟨h, T2⟩ := T
  obtain ⟨r, hC, hT2⟩ := hT
  have hC0 : TrR I i h r := hC
  simp only at hT2
  obtain ⟨t1, t2, t3, t4, t5⟩ := hC0
  have hh : h ≤ 5 := ht_good hg (by omega)
  have rv : r < 2160 := VR_lt hi (wfT_V t3 r (fpT_self _ _ _))
  have hmap : T2 = mapT (fun x : Int => sE I x.toNat) h (mkT (nsS I) h r) := by
    rw [hT2, ← nsS_R, mkT_map]
  have hls : lsT (⟨h, T2⟩ : TS E) = (inT h (mkT (nsS I) h r)).map (fun x : Int => sE I x.toNat) := by
    show inT h T2 = _
    rw [hmap, inT_map]
  have len2 : (inT h (mkT (nsS I) h r)).length = (lsT (⟨h, T2⟩ : TS E)).length := by rw [hls, List.length_map]
  refine callV_fl (as' := [.inr (3, 0, 0), .inl (1, (i : Int))]) rfl ?_
  refine callV_of rfl (b_r_goThrough (inRn (by omega)) ?_)
  intro I1 e1 I2 e2
  rw [Int.toNat_natCast]
  have r2 : rd I2 241 i = r := by rw [e2, rd_wt_a _ _ _ _ (by omega), e1, rd_wt_a _ _ _ _ (by omega), t2]
  rw [r2]
  refine ⟨by omega, by omega, ?_⟩
  intro I3 e3
  refine ⟨by omega, ?_⟩
  intro I4 e4
  refine gt_sub (i := i) hi t1 (okO_s (okF_1 (inRn (by omega)) 1)) h 0 r I4 [] (fun _ => 0) (fun _ => 0) none none (by omega) (wfS t3) okO_n okO_n ⟨fun c c0 c1 c2 _ _ => by rw [e4, wt_a _ _ _ _ c2, e3, wt_a _ _ _ _ c1, e2, wt_a _ _ _ _ c0, e1, wt_a _ _ _ _ c0], fun k ka kb => by rw [e4, rd_wt_a _ _ _ _ (by omega), e3, rd_wt_a _ _ _ _ (by omega), e2, rd_wt_k _ _ _ _ ka, e1, rd_wt_k _ _ _ _ kb], by rw [e4, rd_wt_a _ _ _ _ (by omega), e3, rd_wt_a _ _ _ _ (by omega), e2, rd_wt_s _ _ _ ⟨by omega, by omega⟩]; rfl, by rw [e4, rd_wt_a _ _ _ _ (by omega), e3, rd_wt_a _ _ _ _ (by omega), e2, rd_wt_k _ _ _ _ (by omega), e1, rd_wt_s _ _ _ ⟨by omega, by omega⟩]; rfl, fun x y hx => by simp at hx⟩ ⟨by rw [e4, rd_wt_a _ _ _ _ (by omega), e3, rd_wt_s _ _ _ (inRn (by omega))], by rw [e4, rd_wt_s _ _ _ ⟨by omega, by omega⟩]; rfl, fun j hj => absurd hj (by omega)⟩ (by rw [len2]; simp; omega) ?_
  intro J v2 v3 o2 o3 hS _
  rw [List.nil_append] at hS
  obtain ⟨a1, a2, a3, a4, a5⟩ := hS
  refine b_r_goThrough_29 (okO_s (okF_1 (inRn (by omega)) 1)) o2 o3 ⟨fun _ => ?_, fun z => absurd (by rw [a3]; omega) z⟩
  have dl := dm_len h ((0 : Nat) : Int) (mkT (nsS I) h r)
  refine hK J a1 a2 (by rw [a4, dl, len2]) (fun p e he => ?_)
  have pl := (List.getElem?_eq_some_iff.mp he).1
  obtain ⟨xx, hx⟩ : ∃ xx, (dmT h ((0 : Nat) : Int) (mkT (nsS I) h r))[p]? = some xx := ⟨_, List.getElem?_eq_getElem (by rw [dl, len2]; exact pl)⟩
  have hj := a5 p xx hx
  have hf : (inT h (mkT (nsS I) h r))[p]? = some xx.1 := by
    rw [← dm_fst h ((0 : Nat) : Int), List.getElem?_map, hx]
    rfl
  have hd : (dpT h 0 (mkT (nsS I) h r))[p]? = some xx.2 := by
    show (dpT h ((0 : Nat) : Int) (mkT (nsS I) h r))[p]? = some xx.2
    rw [← dm_snd h ((0 : Nat) : Int), List.getElem?_map, hx]
    rfl
  -- what number it is
  have num : ∀ (g n : Nat), wfT (VR i) (nsS I) g n → ∀ x ∈ inT g (mkT (nsS I) g n), 0 ≤ x ∧ x < 10800 := by
    have leafn : ∀ n, n < 2160 → ∀ x ∈ (nsS I n).1, 0 ≤ x ∧ x < 10800 := by
      intro n hn x hx
      obtain ⟨k, hk, rfl⟩ := seg_mem.mp hx
      have := t1 n hn
      constructor <;> omega
    intro g
    induction g with
    | zero => intro n hw x hx; exact leafn n (VR_lt hi hw.1) x hx
    | succ g ih =>
      intro n hw x hx
      have hx' : x ∈ itr (nsS I n).1 (((nsS I n).2.map (fun c => mkT (nsS I) g c.toNat)).map (inT g)) := hx
      have : ∀ (K : List Int) (D : List (List Int)), x ∈ itr K D → x ∈ K ∨ ∃ l ∈ D, x ∈ l := by
        intro K D
        induction D generalizing K with
        | nil => intro h; cases K <;> cases h
        | cons u D ihD =>
          intro h
          cases K with
          | nil => exact Or.inr ⟨u, List.mem_cons_self, h⟩
          | cons y K =>
            rcases List.mem_append.mp (show x ∈ u ++ y :: itr K D from h) with h | h
            · exact Or.inr ⟨u, List.mem_cons_self, h⟩
            · rcases List.mem_cons.mp h with h | h
              · exact Or.inl (h ▸ List.mem_cons_self)
              · rcases ihD K h with h | ⟨l, hl, h⟩
                · exact Or.inl (List.mem_cons_of_mem _ h)
                · exact Or.inr ⟨l, List.mem_cons_of_mem _ hl, h⟩
      rcases this _ _ hx' with h | ⟨l, hl, h⟩
      · exact leafn n (VR_lt hi hw.1) x h
      · rw [List.map_map] at hl
        obtain ⟨c, hc, rfl⟩ := List.mem_map.mp hl
        exact ih _ (hw.2.2 c hc).2 x h
  have qb := num h r (wfS t3) xx.1 (List.mem_of_getElem? hf)
  refine ⟨xx.1.toNat, by rw [hj.1]; omega, by omega, ?_, ?_⟩
  · rw [hls, List.getElem?_map, hf] at he
    exact Option.some.inj he
  · show (dpT h 0 T2)[p]? = _
    rw [hmap, dpT_map, hd, hj.2]
theorem c_heightOf {I : Mm} {K : Int → Mm → Prop} {i fa : Nat} {T : TS E} (hi : i < 6) (hT : TreeR I i T) (hg : good T) (hl : (lsT T).length ≤ 648) (hK : K ((T.1 + 1 : Nat) : Int) I) : CallZ 158 [.inr (3, 0, 0), .inl (fa, (i : Int))] I K := by
  obtain ⟨h, T2⟩ := T
  obtain ⟨r, hC, hT2⟩ := hT
  have hh : h ≤ 5 := ht_good hg (by omega)
  have hC0 : TrR I i h r := hC
  obtain ⟨t1, t2, t3, t4, t5⟩ := hC0
  have loop : ∀ (g l n : Nat), l + g = h → wfT (VR i) (nsR I) g n → GoA 158 9 [some (.inr (3, 0, 0)), some (.inl (1, (i : Int))), some (.inl (1, ((l + 1 : Nat) : Int))), some (.inl (1, (n : Int)))] [] I (rZ K) := by
    intro g
    induction g with
    | zero =>
      intro l n hl wn
      have nv : n < 2160 := VR_lt hi wn.1
      obtain ⟨c0, hc0, hc1, hc2⟩ := kidsX wn
      have r0 : rd I 246 (6 * n) = c0 := (rcs_get (I := I) hc0).1
      rw [hc1 rfl] at r0
      refine b_r_heightOf_9 (okO_s (okF_1 (inRn (by omega)) 1)) (inRn (by omega)) (inRn (by omega)) ?_
      rw [wrn (6 * n) (by omega) (by omega), Int.toNat_natCast, r0]
      have e : l = h := by omega
      subst e
      exact ⟨by omega, fun _ => hK, fun z => absurd rfl z⟩
    | succ g ih =>
      intro l n hl wn
      have nv : n < 2160 := VR_lt hi wn.1
      obtain ⟨c0, hc0, hc1, hc2⟩ := kidsX wn
      have r0 : rd I 246 (6 * n) = c0 := (rcs_get (I := I) hc0).1
      have c0p := hc2 (by omega)
      have wc := (wn.2.2 c0 (List.mem_of_getElem? hc0)).2
      refine b_r_heightOf_9 (okO_s (okF_1 (inRn (by omega)) 1)) (inRn (by omega)) (inRn (by omega)) ?_
      rw [wrn (6 * n) (by omega) (by omega), Int.toNat_natCast, r0]
      refine ⟨by omega, fun z => absurd z (by omega), fun _ => ⟨by omega, ?_⟩⟩
      intro v1 e1 _ v2 e2 _
      rw [wrn (l + 1 + 1) (by omega) (by omega)] at e2
      obtain ⟨c, hc⟩ : ∃ c : Nat, c0 = (c : Int) := ⟨c0.toNat, by omega⟩
      subst hc
      subst e1; subst e2
      rw [Int.toNat_natCast] at wc
      exact ih (l + 1) c (by omega) wc
  refine callZ_fl (as' := [.inr (3, 0, 0), .inl (1, (i : Int))]) rfl ?_
  refine callZ_of rfl (b_r_heightOf (inRn (by omega)) ⟨by omega, ?_⟩)
  intro v1 e1 _
  rw [Int.toNat_natCast, t2] at e1
  subst e1
  exact loop h 0 r (by omega) t3
theorem c_nodesOf {I : Mm} {K : Int → Mm → Prop} {i fa : Nat} {T : TS E} (hi : i < 6) (hT : TreeR I i T) (hK : K ((ndT T.1 T.2 : Nat) : Int) I) : CallZ 159 [.inr (3, 0, 0), .inl (fa, (i : Int))] I K := by
  obtain ⟨h, T2⟩ := T
  obtain ⟨r, hC, hT2⟩ := hT
  have hC0 : TrR I i h r := hC
  obtain ⟨t1, t2, t3, t4, t5⟩ := hC0
  simp only at hT2
  -- how many are taken
  have cnt : ((List.range 360).filter (fun k => decide (rd I 242 (360 * i + k) ≠ 0))).length = ndT h T2 := by
    have e1 : ndT h T2 = (fpT (nsR I) h r).length := by rw [hT2, fpT_nd]
    have nd1 : (((List.range 360).filter (fun k => decide (rd I 242 (360 * i + k) ≠ 0))).map (fun k => 360 * i + k)).Nodup :=
      List.Pairwise.map _ (fun a b hab => by omega) (List.nodup_range.filter _)
    have a := nd_len nd1 (m := fpT (nsR I) h r) (fun x hx => by
      obtain ⟨k, hk, rfl⟩ := List.mem_map.mp hx
      obtain ⟨h1, h2⟩ := List.mem_filter.mp hk
      have := List.mem_range.mp h1
      exact (t5 _ (by unfold VR; omega)).mp (of_decide_eq_true h2))
    have b := nd_len t4 (m := ((List.range 360).filter (fun k => decide (rd I 242 (360 * i + k) ≠ 0))).map (fun k => 360 * i + k)) (fun x hx => by
      have hv : VR i x := wfT_V t3 x hx
      have hz := (t5 x hv).mpr hx
      unfold VR at hv
      refine List.mem_map.mpr ⟨x - 360 * i, List.mem_filter.mpr ⟨List.mem_range.mpr (by omega), decide_eq_true ?_⟩, by omega⟩
      rw [show 360 * i + (x - 360 * i) = x by omega]
      exact hz)
    rw [List.length_map] at a b
    omega
  have loop : ∀ (d k : Nat), k + d = 360 → ∀ mn : Nat, mn = ((List.range k).filter (fun k => decide (rd I 242 (360 * i + k) ≠ 0))).length → GoA 159 8 [some (.inr (3, 0, 0)), some (.inl (1, (i : Int))), some (.inl (1, (mn : Int))), some (.inl (1, ((360 * i + k : Nat) : Int)))] [] I (rZ K) := by
    intro d
    induction d with
    | zero =>
      intro k hk mn hm
      have : k = 360 := by omega
      subst this
      rw [cnt] at hm
      have mb : mn ≤ 360 := by
        rw [hm, ← cnt]
        have := List.length_filter_le (fun k => decide (rd I 242 (360 * i + k) ≠ 0)) (List.range 360)
        rw [List.length_range] at this
        exact this
      refine b_r_nodesOf_8 (inRn (by omega)) (inRn (by omega)) (inRn (by omega)) ⟨fun _ => ?_, fun z => absurd (by rw [wrn (360 * i + 360) (by omega) (by omega)]; omega) z⟩
      subst hm
      exact hK
    | succ d ih =>
      intro k hk mn hm
      have mb : mn ≤ 360 := by
        rw [hm]
        have := List.length_filter_le (fun k => decide (rd I 242 (360 * i + k) ≠ 0)) (List.range k)
        rw [List.length_range] at this
        omega
      refine b_r_nodesOf_8 (inRn (by omega)) (inRn (by omega)) (inRn (by omega)) ⟨fun z => absurd z (by rw [wrn (360 * i + 360) (by omega) (by omega)]; omega), fun _ => ?_⟩
      rw [Int.toNat_natCast]
      refine ⟨by omega, fun z => ?_, fun z => ?_⟩
      · intro v2 e2 _ v3 e3 _
        rw [wrn (360 * i + (k + 1)) (by omega) (by omega)] at e3
        subst e2; subst e3
        refine ih (k + 1) (by omega) mn ?_
        rw [hm, List.range_succ, List.filter_append]
        simp [z]
      · intro v2 e2 _ v3 e3 _
        rw [wrn (360 * i + (k + 1)) (by omega) (by omega)] at e3
        rw [wrn (mn + 1) (by omega) (by omega)] at e2
        subst e2; subst e3
        refine ih (k + 1) (by omega) (mn + 1) ?_
        rw [hm, List.range_succ, List.filter_append]
        simp [z]
  refine callZ_fl (as' := [.inr (3, 0, 0), .inl (1, (i : Int))]) rfl ?_
  refine callZ_of rfl (b_r_nodesOf (inRn (by omega)) ?_)
  intro v3 e3 _
  rw [wrn (360 * i) (by omega) (by omega)] at e3
  subst e3
  exact loop 360 0 (by omega) 0 rfl
set_option maxHeartbeats 2000000 in
theorem c_emptyTree {I : Mm} {K : Mm → Prop} {i fa : Nat} (hi : i < 6) (hc : cnOK I) (hK : ∀ I' : Mm, (∀ c, c ≠ 241 → c ≠ 242 → c ≠ 243 → c ≠ 246 → I' c = I c) → FrR I I' i → TreeR I' i ⟨0, ([] : List E)⟩ → K I') : CallV 146 [.inr (3, 0, 0), .inl (fa, (i : Int))] I K := by
  have loop : ∀ (d k : Nat) (J : Mm), k + d = 360 → (∀ c, c ≠ 242 → J c = I c) → (∀ m, rd J 242 m = if 360 * i ≤ m ∧ m < 360 * i + k then 0 else rd I 242 m) → GoA 146 6 [some (.inr (3, 0, 0)), some (.inl (1, (i : Int))), some (.inl (1, ((360 * i + k : Nat) : Int)))] [] J (rV K) := by
    intro d
    induction d with
    | zero =>
      intro k J hk f1 f2
      have : k = 360 := by omega
      subst this
      refine b_r_emptyTree_6 (inRn (by omega)) (inRn (by omega)) ⟨fun _ => ?_, fun z => absurd (by rw [wrn (360 * i + 360) (by omega) (by omega)]; omega) z⟩
      have cJ : cnOK J := fun m hm => by rw [rd_of (f1 _ (by omega))]; exact hc m hm
      refine c_node (n0 := 360 * i) hi (by unfold VR; omega) (by rw [f2, if_pos (by omega)]) ?_
      intro J1 n nV nz g1 g2 g3 g4 g5
      have nv := VR_lt hi nV
      rw [Int.toNat_natCast]
      refine ⟨by omega, ?_⟩
      intro J2 e2
      have n2 : nsR J2 = nsR J1 := nsR_of (by rw [e2, wt_a _ _ _ _ (by omega)]) (by rw [e2, wt_a _ _ _ _ (by omega)]) (by rw [e2, wt_a _ _ _ _ (by omega)]) (by rw [e2, wt_a _ _ _ _ (by omega)])
      have nn : nsR J2 n = ([], [-1]) := by
        rw [n2]
        unfold nsR rks rcs
        rw [g4]
        show (([] : List E), [rd J1 246 (6 * n + 0)]) = _
        rw [show 6 * n + 0 = 6 * n by omega, g5]
      have nJ : nsR J = nsR I := nsR_of (f1 _ (by omega)) (f1 _ (by omega)) (f1 _ (by omega)) (f1 _ (by omega))
      have k2 : ∀ m, rd J2 242 m = if m = n then 1 else rd J 242 m := fun m => by rw [e2, rd_wt_a _ _ _ _ (by omega), g2]
      refine hK J2 (fun c c1 c2 c3 c6 => by rw [e2, wt_a _ _ _ _ c1, g1 c c2 c3 c6, f1 c c2]) ⟨fun c _ c1 c2 c3 _ _ c6 _ _ _ => by rw [e2, wt_a _ _ _ _ c1, g1 c c2 c3 c6, f1 c c2], fun k _ _ => by rw [e2, rd_wt_a _ _ _ _ (by omega), rd_of (g1 _ (by omega) (by omega) (by omega)), rd_of (f1 _ (by omega))], fun j hj => by rw [e2, rd_wt_k _ _ _ _ hj, rd_of (g1 _ (by omega) (by omega) (by omega)), rd_of (f1 _ (by omega))], fun m hm hv => ?_⟩ ⟨n, ⟨?_, by rw [e2, rd_wt_s _ _ _ (inRn (by omega))], ?_, ?_, fun m hm => ?_⟩, ?_⟩
      · have cn : m ≠ n := fun z => hv (z ▸ nV)
        rw [n2, nsR_off g3 cJ hm cn, nJ, k2, if_neg cn, f2, if_neg (fun z => hv (by unfold VR; omega))]
        exact ⟨rfl, rfl⟩
      · intro m hm
        rw [e2, rd_wt_a _ _ _ _ (by omega)]
        by_cases c : m = n
        · subst c; rw [g4]; omega
        · rw [g3.2.2 m c]; exact cJ m hm
      · refine ⟨nV, ?_⟩
        rw [nn]
        rfl
      · exact List.nodup_cons.mpr ⟨by simp, List.nodup_nil⟩
      · rw [k2]
        show _ ↔ m ∈ [n]
        rw [List.mem_singleton]
        by_cases c : m = n
        · rw [if_pos c]
          exact ⟨fun _ => c, fun _ => by decide⟩
        · rw [if_neg c, f2]
          unfold VR at hm
          rw [if_pos (by omega)]
          exact ⟨fun z => absurd rfl z, fun z => absurd z c⟩
      · show ([] : List E) = (nsR J2 n).1
        rw [nn]
    | succ d ih =>
      intro k J hk f1 f2
      refine b_r_emptyTree_6 (inRn (by omega)) (inRn (by omega)) ⟨fun z => absurd z (by rw [wrn (360 * i + 360) (by omega) (by omega)]; omega), fun _ => ⟨by omega, ?_⟩⟩
      intro I3 e3 v2 e2 _
      rw [Int.toNat_natCast] at e3
      rw [wrn (360 * i + (k + 1)) (by omega) (by omega)] at e2
      subst e2
      refine ih (k + 1) I3 (by omega) (fun c c2 => by rw [e3, wt_a _ _ _ _ c2, f1 c c2]) (fun m => ?_)
      rw [e3, rd_wt, if_pos rfl, wrx (by omega) (by omega), f2]
      by_cases c : m = 360 * i + k
      · rw [if_pos c, if_pos (by omega)]
      · rw [if_neg c]
        by_cases c2 : 360 * i ≤ m ∧ m < 360 * i + k
        · rw [if_pos c2, if_pos (by omega)]
        · rw [if_neg c2, if_neg (by omega)]
  refine callV_fl (as' := [.inr (3, 0, 0), .inl (1, (i : Int))]) rfl ?_
  refine callV_of rfl (b_r_emptyTree (inRn (by omega)) ?_)
  intro v2 e2 _
  rw [wrn (360 * i) (by omega) (by omega)] at e2
  subst e2
  exact loop 360 0 I (by omega) (fun _ _ => rfl) (fun m => by rw [if_neg (by omega)])
/-- another index's tree stands -/
theorem treeR_fr {I J : Mm} {i j : Nat} {T : TS E} (hi : i < 6) (hj : j < 6) (hne : j ≠ i) (hF : FrR I J i) (hc : cnOK J) (hT : TreeR I j T) : TreeR J j T := by
  obtain ⟨r, ⟨t1, t2, t3, t4, t5⟩, hT2⟩ := hT
  have off : ∀ m, VR j m → m < 2160 ∧ ¬ VR i m := fun m hm => ⟨VR_lt hj hm, fun z => by unfold VR at hm z; omega⟩
  have e : ∀ m ∈ fpT (nsR I) T.1 r, nsR J m = nsR I m := fun m hm => by
    have := off m (wfT_V t3 m hm)
    exact (hF.2.2.2 m this.1 this.2).1
  refine ⟨r, ⟨hc, by rw [hF.2.2.1 j hne]; exact t2, wfT_congr _ _ e t3, by rw [fpT_congr _ _ e]; exact t4, fun m hm => ?_⟩, ?_⟩
  · have := off m hm
    rw [fpT_congr _ _ e, (hF.2.2.2 m this.1 this.2).2]
    exact t5 m hm
  · rw [mkT_congr _ _ e]; exact hT2
theorem treeR_of {I J : Mm} {i : Nat} {T : TS E} (h : ∀ c, 241 ≤ c → c ≤ 246 → J c = I c) (hT : TreeR I i T) : TreeR J i T := by
  obtain ⟨r, ⟨t1, t2, t3, t4, t5⟩, hT2⟩ := hT
  have n : nsR J = nsR I := nsR_of (h _ (by omega) (by omega)) (h _ (by omega) (by omega)) (h _ (by omega) (by omega)) (h _ (by omega) (by omega))
  exact ⟨r, ⟨fun m hm => by rw [rd_of (h _ (by omega) (by omega))]; exact t1 m hm, by rw [rd_of (h _ (by omega) (by omega))]; exact t2, by rw [n]; exact t3, by rw [n]; exact t4, fun m hm => by rw [n, rd_of (h _ (by omega) (by omega))]; exact t5 m hm⟩, by rw [n]; exact hT2⟩
