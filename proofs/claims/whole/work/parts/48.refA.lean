/-! THE REFERENCE: an entry comes -/
theorem kidsX {α : Type} {V : Nat → Prop} {ns : Nat → List α × List Int} {h n : Nat} (hw : wfT V ns h n) : ∃ c, (ns n).2[0]? = some c ∧ (h = 0 → c = -1) ∧ (h ≠ 0 → 0 ≤ c) := by
  cases h with
  | zero => exact ⟨-1, by rw [hw.2]; rfl, fun _ => rfl, fun z => absurd rfl z⟩
  | succ h =>
    have h0 : 0 < (ns n).2.length := by rw [hw.2.1]; omega
    exact ⟨(ns n).2[0], List.getElem?_eq_getElem h0, fun z => absurd z (by omega), fun _ => (hw.2.2 _ (List.getElem_mem h0)).1⟩
theorem rcs_get {I : Mm} {n k : Nat} {c : Int} (h : (rcs I n)[k]? = some c) : rd I 246 (6 * n + k) = c ∧ k ≤ (rd I 243 n).toNat := by
  have hl := (List.getElem?_eq_some_iff.mp h).1
  unfold rcs at h hl
  rw [seg_len] at hl
  rw [seg_get _ _ hl] at h
  exact ⟨Option.some.inj h, by omega⟩
theorem rks_len (I : Mm) (n : Nat) : (rks I n).length = (rd I 243 n).toNat := sgA_len _ _ _
theorem rcs_len (I : Mm) (n : Nat) : (rcs I n).length = (rd I 243 n).toNat + 1 := seg_len _ _ _
theorem rks_get {I : Mm} {n k : Nat} (h : k < (rd I 243 n).toNat) : (rks I n)[k]? = some (sE I (5 * n + k)) := sgA_get _ _ h
theorem kidR {I : Mm} {n k : Nat} (h : k ≤ (rd I 243 n).toNat) : (nsR I n).2[k]? = some (rd I 246 (6 * n + k)) := seg_get _ _ (by omega)
theorem atE_of {I J : Mm} (h1 : J 250 = I 250) (h2 : rd J 212 41 = rd I 212 41) : atE J = atE I := by
  unfold atE; rw [rd_of h1, rd_of h1, rd_of h1, h2]
theorem VR_lt {i m : Nat} (hi : i < 6) (h : VR i m) : m < 2160 := by unfold VR at h; omega
set_option maxHeartbeats 1000000 in
theorem c_slotFor {I : Mm} {K : Int → Mm → Prop} {n s fa : Nat} (hn : n < 2160) (hs : rd I 243 n = s) (hs5 : s ≤ 5) (h : K ((kc (atE I) (rks I n) : Nat) : Int) I) : CallZ 148 [.inr (3, 0, 0), .inl (fa, (n : Int))] I K := by
  have len : (rks I n).length = s := by rw [rks_len, hs, Int.toNat_natCast]
  have loop : ∀ (d k : Nat), k + d = s → (∀ j y, j < k → (rks I n)[j]? = some y → 0 < ecmp (atE I) y) → GoA 148 2 [some (.inr (3, 0, 0)), some (.inl (1, (n : Int))), some (.inl (1, (k : Int)))] [] I (rZ K) := by
    intro d
    induction d with
    | zero =>
      intro k hk hlo
      refine b_r_slotFor_2 (inRn (by omega)) (inRn (by omega)) ?_
      rw [Int.toNat_natCast, hs]
      refine ⟨by omega, fun _ => ?_, fun z => absurd (by omega) z⟩
      have e : kc (atE I) (rks I n) = k := kc_of (by omega) hlo (fun y hy => by rw [List.getElem?_eq_none (by omega)] at hy; cases hy)
      rw [e] at h
      exact h
    | succ d ih =>
      intro k hk hlo
      refine b_r_slotFor_2 (inRn (by omega)) (inRn (by omega)) ?_
      rw [Int.toNat_natCast, hs]
      refine ⟨by omega, fun z => absurd z (by omega), fun _ => ?_⟩
      rw [show 5 * (n : Int) + (k : Int) = ((5 * n + k : Nat) : Int) by omega]
      have gk := rks_get (I := I) (n := n) (k := k) (by rw [hs]; omega)
      refine c_rcmp (by omega) ⟨fun z => ?_, fun z => ?_⟩
      · have e : kc (atE I) (rks I n) = k := kc_of (by omega) hlo (fun y hy => by rw [gk] at hy; cases hy; omega)
        rw [e] at h
        exact h
      · intro v e _
        rw [wrn (k + 1) (by omega) (by omega)] at e
        subst e
        refine ih (k + 1) (by omega) (fun j y hj hy => ?_)
        by_cases c : j = k
        · subst c
          rw [gk] at hy
          cases hy
          omega
        · exact hlo j y (by omega) hy
  refine callZ_fl (as' := [.inr (3, 0, 0), .inl (1, (n : Int))]) rfl ?_
  exact callZ_of rfl (b_r_slotFor (inRn (by omega)) (loop s 0 (by omega) (fun j y hj => absurd hj (by omega))))
def tJ (J : Mm) : Nat → Nat := fun j => (rd J 252 j).toNat
def FInR (I J : Mm) (r : Nat) (e : E) (l : Nat) : Prop :=
  (∀ c, c ≠ 212 → c ≠ 251 → c ≠ 252 → J c = I c) ∧ (∀ k, k ≠ 42 → rd J 212 k = rd I 212 k) ∧ rd J 212 42 = l ∧
  (∀ j, j < l → rd J 251 j = pthT (nsR I) (tJ J) r j ∧ rd J 252 j = tJ J j ∧ tJ J j = kc e (rks I (pthT (nsR I) (tJ J) r j)) ∧ hit e (rks I (pthT (nsR I) (tJ J) r j)) = false)
set_option maxHeartbeats 2000000 in
theorem c_rfind {I : Mm} {K : Int → Mm → Prop} {i h r fa : Nat} (hi : i < 6) (hc : cnOK I) (hroot : rd I 241 i = r) (hw : wfT (VR i) (nsR I) h r) (hh : h ≤ 11)
    (hK : ∀ (d : Nat) (x : Int) (I' : Mm), (∀ c, c ≠ 212 → c ≠ 251 → c ≠ 252 → I' c = I c) → (∀ k, k ≠ 42 → rd I' 212 k = rd I 212 k) → rd I' 212 42 = d → d ≤ h →
      (∀ j, j ≤ d → rd I' 251 j = pthT (nsR I) (tJ I') r j ∧ rd I' 252 j = tJ I' j ∧ tJ I' j = kc (atE I) (rks I (pthT (nsR I) (tJ I') r j))) →
      (∀ j, j < d → hit (atE I) (rks I (pthT (nsR I) (tJ I') r j)) = false) →
      ((x = 1 ∧ hit (atE I) (rks I (pthT (nsR I) (tJ I') r d)) = true) ∨ (x = 0 ∧ hit (atE I) (rks I (pthT (nsR I) (tJ I') r d)) = false ∧ d = h)) → K x I') : CallZ 149 [.inr (3, 0, 0), .inl (fa, (i : Int))] I K := by
  have outer : ∀ (g l n : Nat) (J : Mm) (m3 : Option AV), okO m3 → l + g = h → FInR I J r (atE I) l → n = pthT (nsR I) (tJ J) r l → wfT (VR i) (nsR I) g n → GoA 149 12 [some (.inr (3, 0, 0)), some (.inl (1, (i : Int))), some (.inl (1, (n : Int))), m3] [] J (rZ K) := by
    intro g
    induction g using Nat.strongRecOn with
    | ind g ih =>
      intro l n J m3 h3 hl hF hnp wn
      obtain ⟨f1, f2, f3, f4⟩ := hF
      have nv : n < 2160 := VR_lt hi (wfT_V wn n (fpT_self _ _ _))
      have cb := hc n nv
      obtain ⟨s, hs⟩ : ∃ s : Nat, rd I 243 n = s := ⟨(rd I 243 n).toNat, by omega⟩
      have nsJ : nsR J = nsR I := nsR_of (f1 _ (by omega) (by omega) (by omega)) (f1 _ (by omega) (by omega) (by omega)) (f1 _ (by omega) (by omega) (by omega)) (f1 _ (by omega) (by omega) (by omega))
      have rkJ : ∀ m, rks J m = rks I m := fun m => congrArg Prod.fst (congrFun nsJ m)
      have atJ : atE J = atE I := atE_of (f1 _ (by omega) (by omega) (by omega)) (f2 41 (by omega))
      have len : (rks I n).length = s := by rw [rks_len, hs, Int.toNat_natCast]
      refine b_r_find_12 (okO_s (okF_1 (inRn (by omega)) 1)) (inRn (by omega)) h3 ?_
      refine c_slotFor (s := s) nv (by rw [rd_of (f1 _ (by omega) (by omega) (by omega)), hs]) (by omega) ?_
      rw [atJ, rkJ]
      obtain ⟨k, hk⟩ : ∃ k, k = kc (atE I) (rks I n) := ⟨_, rfl⟩
      rw [← hk]
      have kle : k ≤ s := by have := kc_le (atE I) (rks I n); omega
      intro v3 e3 i3
      subst e3
      rw [f3, Int.toNat_natCast]
      refine ⟨by omega, ?_⟩
      intro I2 e2
      have r2 : rd I2 212 42 = l := by rw [e2, rd_wt_a _ _ _ _ (by omega), f3]
      rw [r2, Int.toNat_natCast]
      refine ⟨by omega, ?_⟩
      intro I3 e3
      have q1 : ∀ x, rd I3 251 x = if x = l then (n : Int) else rd J 251 x := fun x => by rw [e3, rd_wt_a _ _ _ _ (by omega), e2, rd_wt, if_pos rfl, wrn n rfl (by omega)]
      have q2 : ∀ x, rd I3 252 x = if x = l then (k : Int) else rd J 252 x := fun x => by
        rw [e3, rd_wt, if_pos rfl, wrn k rfl (by omega)]
        by_cases c : x = l
        · rw [if_pos c, if_pos c]
        · rw [if_neg c, if_neg c, e2, rd_wt_a _ _ _ _ (by omega)]
      have g1 : ∀ c, c ≠ 251 → c ≠ 252 → I3 c = J c := fun c c1 c2 => by rw [e3, wt_a _ _ _ _ c2, e2, wt_a _ _ _ _ c1]
      have g1I : ∀ c, c ≠ 212 → c ≠ 251 → c ≠ 252 → I3 c = I c := fun c c0 c1 c2 => by rw [g1 c c1 c2, f1 c c0 c1 c2]
      have g2 : ∀ k, k ≠ 42 → rd I3 212 k = rd I 212 k := fun k hk => by rw [rd_of (g1 _ (by omega) (by omega)), f2 k hk]
      have g3 : rd I3 212 42 = l := by rw [rd_of (g1 _ (by omega) (by omega)), f3]
      have es : ∀ j, j < l → tJ I3 j = tJ J j := fun j hj => by unfold tJ; rw [q2, if_neg (by omega)]
      have esl : tJ I3 l = k := by unfold tJ; rw [q2, if_pos rfl, Int.toNat_natCast]
      have ep : ∀ j, j ≤ l → pthT (nsR I) (tJ I3) r j = pthT (nsR I) (tJ J) r j := fun j hj => pthT_congr j (fun i hi => es i (by omega))
      have hcom : ∀ j, j ≤ l → rd I3 251 j = pthT (nsR I) (tJ I3) r j ∧ rd I3 252 j = tJ I3 j ∧ tJ I3 j = kc (atE I) (rks I (pthT (nsR I) (tJ I3) r j)) := by
        intro j hj
        rw [ep j hj, q1, q2]
        by_cases c : j = l
        · subst c
          rw [if_pos rfl, if_pos rfl, esl, ← hnp, hk]
          exact ⟨rfl, rfl, rfl⟩
        · rw [if_neg c, if_neg c, es j (by omega)]
          obtain ⟨a, b, c, _⟩ := f4 j (by omega)
          exact ⟨a, b, c⟩
      have hnh : ∀ j, j < l → hit (atE I) (rks I (pthT (nsR I) (tJ I3) r j)) = false := fun j hj => by rw [ep j (by omega)]; exact (f4 j hj).2.2.2
      have w6 : wr (6 * (n : Int)) = ((6 * n : Nat) : Int) := wrn _ (by omega) (by omega)
      have w7 : wr (6 * (n : Int) + (k : Int)) = ((6 * n + k : Nat) : Int) := wrn _ (by omega) (by omega)
      have r7 : ∀ x, rd I3 246 x = rd I 246 x := fun x => rd_of (g1I _ (by omega) (by omega) (by omega)) x
      obtain ⟨c0, hc0, hc1, hc2⟩ := kidsX wn
      have r0 : rd I 246 (6 * n) = c0 := (rcs_get (I := I) hc0).1
      have pl : pthT (nsR I) (tJ I3) r l = n := by rw [ep l (Nat.le_refl _), hnp]
      have leaf : hit (atE I) (rks I n) = false → c0 = -1 → K 0 I3 := by
        intro hf z
        have g0 : g = 0 := by
          by_cases c : g = 0
          · exact c
          · have := hc2 c; omega
        exact hK l 0 I3 g1I g2 g3 (by omega) hcom hnh (Or.inr ⟨rfl, by rw [pl]; exact hf, by omega⟩)
      have down : hit (atE I) (rks I n) = false → ¬ c0 = -1 → ∀ I4, I4 = wt I3 212 42 ((l : Int) + 1) → (0 ≤ ((6 * n + k : Nat) : Int) ∧ ((6 * n + k : Nat) : Int) < 12960) ∧ (∀ v2, v2 = rd I4 246 (6 * n + k) → inR v2 → GoA 149 12 [some (.inr (3, 0, 0)), some (.inl (1, (i : Int))), some (.inl (1, v2)), some (.inl (1, (k : Int)))] [] I4 (rZ K)) := by
        intro hf z I4 e4
        have g0 : g ≠ 0 := fun c => z (hc1 c)
        obtain ⟨g', rfl⟩ : ∃ g', g = g' + 1 := ⟨g - 1, by omega⟩
        have slen : (nsR I n).1.length = s := len
        obtain ⟨c, hck, cp, wc, ec⟩ := kid_of (k := k) wn (by omega)
        have rk := (rcs_get (I := I) (n := n) (k := k) hck).1
        refine ⟨by omega, ?_⟩
        intro v2 ev2 _
        have r4 : ∀ x, rd I4 246 x = rd I 246 x := fun x => by rw [e4, rd_wt_a _ _ _ _ (by omega), r7]
        rw [r4, rk] at ev2
        obtain ⟨c', hcc⟩ : ∃ c' : Nat, c = (c' : Int) := ⟨c.toNat, by omega⟩
        subst hcc
        subst ev2
        rw [Int.toNat_natCast] at wc
        have t4 : tJ I4 = tJ I3 := funext (fun x => by unfold tJ; rw [e4, rd_wt_a _ _ _ _ (by omega)])
        refine ih g' (by omega) (l + 1) c' I4 _ (okO_s (okF_1 (inRn (by omega)) 1)) (by omega) ⟨fun c c0 c1 c2 => by rw [e4, wt_a _ _ _ _ c0, g1I c c0 c1 c2], fun k hk => by rw [e4, rd_wt_k _ _ _ _ hk, g2 k hk], by rw [e4, rd_wt_s _ _ _ ⟨by omega, by omega⟩]; rfl, fun j hj => ?_⟩ ?_ wc
        · rw [t4, e4, rd_wt_a _ _ _ _ (by omega), rd_wt_a _ _ _ _ (by omega)]
          obtain ⟨a, b, c⟩ := hcom j (by omega)
          refine ⟨a, b, c, ?_⟩
          by_cases cj : j = l
          · subst cj; rw [pl]; exact hf
          · exact hnh j (by omega)
        · rw [t4]
          show c' = ((nsR I (pthT (nsR I) (tJ I3) r l)).2[tJ I3 l]?.getD 0).toNat
          rw [pl, esl, hck]; rfl
      rw [w6, w7, Int.toNat_natCast, Int.toNat_natCast, Int.toNat_natCast, rd_of (g1I 243 (by omega) (by omega) (by omega)), hs, r7, r0, g3]
      refine ⟨by omega, fun z => ?_, fun z => ?_⟩
      · have hf : hit (atE I) (rks I n) = false := by
          unfold hit
          rw [← hk, List.getElem?_eq_none (by omega)]
        refine ⟨by omega, fun z2 => leaf hf z2, fun z2 => down hf z2⟩
      · have gk := rks_get (I := I) (n := n) (k := k) (by rw [hs]; omega)
        have s3 : sE I3 (5 * n + k) = sE I (5 * n + k) := sE_of (g1I _ (by omega) (by omega) (by omega)) (g1I _ (by omega) (by omega) (by omega)) _
        have a3 : atE I3 = atE I := atE_of (g1I _ (by omega) (by omega) (by omega)) (g2 41 (by omega))
        rw [show 5 * (n : Int) + (k : Int) = ((5 * n + k : Nat) : Int) by omega]
        refine c_rcmp (by omega) ?_
        rw [a3, s3]
        refine ⟨fun z2 => ?_, fun z2 => ?_⟩
        · have ht : hit (atE I) (rks I n) = true := by
            unfold hit
            rw [← hk, gk]
            exact decide_eq_true z2
          exact hK l 1 I3 g1I g2 g3 (by omega) hcom hnh (Or.inl ⟨rfl, by rw [pl]; exact ht⟩)
        · have hf : hit (atE I) (rks I n) = false := by
            unfold hit
            rw [← hk, gk]
            exact decide_eq_false z2
          rw [r7, r0, g3]
          refine ⟨by omega, fun z2 => leaf hf z2, fun z2 => down hf z2⟩
  refine callZ_fl (as' := [.inr (3, 0, 0), .inl (1, (i : Int))]) rfl ?_
  refine callZ_of rfl (b_r_find (inRn (by omega)) ?_)
  intro I1 e1
  refine ⟨by omega, ?_⟩
  intro v2 e2 _
  rw [Int.toNat_natCast, e1, rd_wt_a _ _ _ _ (by omega), hroot] at e2
  subst e2
  exact outer h 0 r I1 none okO_n (by omega) ⟨fun c c0 _ _ => by rw [e1, wt_a _ _ _ _ c0], fun k hk => by rw [e1, rd_wt_k _ _ _ _ hk], by rw [e1, rd_wt_s _ _ _ ⟨by omega, by omega⟩]; rfl, fun j hj => absurd hj (by omega)⟩ rfl hw
/-! the reference's tree as a whole -/
def TrR (I : Mm) (i h r : Nat) : Prop := cnOK I ∧ rd I 241 i = r ∧ wfT (VR i) (nsR I) h r ∧ (fpT (nsR I) h r).Nodup ∧ ∀ m, VR i m → (rd I 242 m ≠ 0 ↔ m ∈ fpT (nsR I) h r)
def TreeR (I : Mm) (i : Nat) (T : TS E) : Prop := ∃ r, TrR I i T.1 r ∧ T.2 = mkT (nsR I) T.1 r
/-- what the reference's tree work leaves as it was -/
def FrR (I J : Mm) (i : Nat) : Prop := (∀ c, c ≠ 212 → c ≠ 241 → c ≠ 242 → c ≠ 243 → c ≠ 244 → c ≠ 245 → c ≠ 246 → c ≠ 250 → c ≠ 251 → c ≠ 252 → J c = I c) ∧ (∀ k, k ≠ 41 → k ≠ 42 → rd J 212 k = rd I 212 k) ∧ (∀ j, j ≠ i → rd J 241 j = rd I 241 j) ∧ (∀ m, m < 2160 → ¬ VR i m → nsR J m = nsR I m ∧ rd J 242 m = rd I 242 m)
theorem free_ex {I : Mm} {i : Nat} (L : List Nat) (hL : L.length < 360) (h : ∀ m, VR i m → rd I 242 m ≠ 0 → m ∈ L) : ∃ n, VR i n ∧ rd I 242 n = 0 := by
  apply Classical.byContradiction
  intro hn
  have all : ∀ m, VR i m → m ∈ L := fun m hm => h m hm (fun z => hn ⟨m, hm, z⟩)
  have := nd_len (l := (List.range 360).map (fun k => 360 * i + k)) (m := L) (by
    refine List.Pairwise.map _ (fun a b hab => ?_) List.nodup_range
    omega) (fun x hx => by
    obtain ⟨k, hk, rfl⟩ := List.mem_map.mp hx
    have := List.mem_range.mp hk
    exact all _ (by unfold VR; omega))
  simp at this
  omega
theorem sgA_take {α : Type} (f : Nat → α) (b : Nat) {n k : Nat} (h : k ≤ n) : (sgA f b n).take k = sgA f b k := by
  unfold sgA
  rw [← List.map_take, List.take_range, Nat.min_eq_left h]
theorem sgA_drop {α : Type} (f : Nat → α) (b : Nat) {n k : Nat} (h : k ≤ n) : (sgA f b n).drop k = sgA f (b + k) (n - k) := by
  symm
  refine sgA_ext (by rw [List.length_drop, sgA_len]) (fun j hj => ?_)
  rw [List.getElem?_drop, sgA_get _ _ (by omega), show b + (k + j) = b + k + j by omega]
theorem NF2 {I J : Mm} {n m : Nat} (h : NFr I J n) (hc : cnOK I) (hm : m < 2160) (hne : m ≠ n) : rd J 243 m = rd I 243 m := h.2.2 m hne
set_option maxHeartbeats 8000000 in
theorem c_comes {I : Mm} {K : Mm → Prop} {i fa : Nat} {T : TS E} (hi : i < 6) (hT : TreeR I i T) (hg : good T) (hl : (lsT T).length ≤ 647)
    (hK : ∀ I' : Mm, FrR I I' i → TreeR I' i (addT (atE I) T) → K I') : CallV 152 [.inr (3, 0, 0), .inl (fa, (i : Int))] I K := by
  obtain ⟨h, T2⟩ := T
  obtain ⟨r, hC, hT2⟩ := hT
  have hC0 : TrR I i h r := hC
  simp only at hT2
  obtain ⟨t1, t2, t3, t4, t5⟩ := hC0
  have hh : h ≤ 5 := ht_good hg (by omega)
  have nd1 : 2 * (fpT (nsR I) h r).length ≤ (lsT (⟨h, T2⟩ : TS E)).length + 2 := by
    have := nd_good hg
    rw [hT2] at this
    rw [fpT_nd, ← hT2]
    rw [← hT2] at this
    exact this
  refine callV_fl (as' := [.inr (3, 0, 0), .inl (1, (i : Int))]) rfl ?_
  refine callV_of rfl (b_r_comesToTree (inRn (by omega)) ?_)
  refine c_rfind hi t1 t2 t3 (by omega) ?_
  intro d x I1 f1 f2 f3 f4 f5 f6 f7
  have n1 : nsR I1 = nsR I := nsR_of (f1 _ (by omega) (by omega) (by omega)) (f1 _ (by omega) (by omega) (by omega)) (f1 _ (by omega) (by omega) (by omega)) (f1 _ (by omega) (by omega) (by omega))
  have c1 : cnOK I1 := fun m hm => by rw [rd_of (f1 _ (by omega) (by omega) (by omega))]; exact t1 m hm
  rcases f7 with ⟨fx, fh⟩ | ⟨fx, fh, fd⟩
  · -- it is there
    subst fx
    refine ⟨fun z => absurd z (by omega), fun _ => ?_⟩
    have fnd : fnT (atE I) h T2 = true := by
      rw [hT2]
      by_cases cd : d = h
      · subst cd
        exact (fd0_of t3 (fun j hj => (f5 j hj).2.2) f6 fh).1
      · obtain ⟨s', hs'⟩ : ∃ s' : Nat → Nat, (∀ j, j ≤ d → s' j = tJ I1 j) ∧ (∀ j, d < j → j < h → s' j = (rks I (pthT (nsR I) s' r j)).length) ∧ s' h = (rks I (pthT (nsR I) s' r h)).length - 1 := ext_path (fun n => (rks I n).length) (nsR I) (tJ I1) r d h (by omega)
        have pc : ∀ j, j ≤ d → pthT (nsR I) s' r j = pthT (nsR I) (tJ I1) r j := fun j hj => pthT_congr j (fun i hi => hs'.1 i (by omega))
        exact (fd1_of (s := s') (d := d) (by omega) t3 (fun j hj => by rw [pc j hj, hs'.1 j hj]; exact (f5 j hj).2.2) (fun j hj => by rw [pc j (by omega)]; exact f6 j hj) (by rw [pc d (Nat.le_refl _)]; exact fh) hs'.2.1 hs'.2.2).1
    refine hK I1 ⟨fun c a0 _ _ _ _ _ _ _ a8 a9 => f1 c a0 a8 a9, fun k _ hk => f2 k hk, fun j _ => rd_of (f1 _ (by omega) (by omega) (by omega)) j, fun m _ _ => ⟨by rw [n1], rd_of (f1 _ (by omega) (by omega) (by omega)) m⟩⟩ ?_
    unfold addT
    rw [if_pos fnd]
    exact ⟨r, ⟨c1, by rw [rd_of (f1 _ (by omega) (by omega) (by omega))]; exact t2, by rw [n1]; exact t3, by rw [n1]; exact t4, fun m hm => by rw [n1, rd_of (f1 _ (by omega) (by omega) (by omega))]; exact t5 m hm⟩, by rw [n1]; exact hT2⟩
  · subst fx
    subst fd
    refine ⟨fun _ => ?_, fun z => absurd rfl z⟩
    have hnf : ∀ j, j ≤ d → hit (atE I) (rks I (pthT (nsR I) (tJ I1) r j)) = false := by
      intro j hj
      by_cases c : j = d
      · subst c; exact fh
      · exact f6 j (by omega)
    have fnd : fnT (atE I) d T2 = false := by
      rw [hT2]
      exact nf_of t3 (fun j hj => (f5 j hj).2.2) hnf
    have hsl : ∀ j, j ≤ d → tJ I1 j = slT (atE I) d T2 j := by
      rw [hT2]
      exact sl_of t3 (fun j hj => (f5 j hj).2.2)
    have hpk : PthOK (VR i) (nsR I) (tJ I1) d r := ⟨t3, t4, fun j hj => by rw [(f5 j hj).2.2]; exact kc_le _ _⟩
    have filN : fil d (rtA d) 4 (mkT (nsR I) d r) := by rw [← hT2]; exact hg.1
    have h4 := fil_nodes (Nat.le_refl 4) filN
    have hpath : ∀ j, j ≤ d → pthT (nsR I) (tJ I1) r j ∈ fpT (nsR I) d r := fun j hj => fp_up hpk j hj _ (fpT_self _ _ _)
    have fpv : ∀ m ∈ fpT (nsR I) d r, VR i m := fun m hm => wfT_V t3 m hm
    have fpl : ∀ m ∈ fpT (nsR I) d r, m < 2160 := fun m hm => VR_lt hi (fpv m hm)
    have leafin := hpath d (Nat.le_refl _)
    have leafv := fpl _ leafin
    rw [f3, Int.toNat_natCast, (f5 d (Nat.le_refl _)).1, (f5 d (Nat.le_refl _)).2.1]
    refine ⟨by omega, ?_⟩
    intro v2 e2 i2
    subst e2
    refine ⟨by omega, ?_⟩
    have l4 : (rks I (pthT (nsR I) (tJ I1) r d)).length ≤ 4 := h4 _ leafin
    rw [rks_len] at l4
    obtain ⟨sz, hsz⟩ : ∃ sz : Nat, rd I 243 (pthT (nsR I) (tJ I1) r d) = sz := ⟨(rd I 243 (pthT (nsR I) (tJ I1) r d)).toNat, by have := t1 _ leafv; omega⟩
    have sle : tJ I1 d ≤ sz := by
      have := hpk.2.2 d (Nat.le_refl _)
      have h' : tJ I1 d ≤ (rks I (pthT (nsR I) (tJ I1) r d)).length := this
      rw [rks_len, hsz] at h'
      omega
    have at1 : atE I1 = atE I := atE_of (f1 _ (by omega) (by omega) (by omega)) (f2 41 (by omega))
    -- the end: a tree stands
    have done : ∀ (J : Mm) (h' r' : Nat), FrR I J i → TrR J i h' r' → (⟨h', mkT (nsR J) h' r'⟩ : TS E) = topT d (insP (tJ I1) (atE I) d 0 (mkT (nsR I) d r)) → K J := by
      intro J h' r' hF hR hE
      refine hK J hF ?_
      have res : addT (atE I) ⟨d, T2⟩ = ⟨h', mkT (nsR J) h' r'⟩ := by
        unfold addT
        rw [if_neg (by rw [fnd]; decide), hE, ← hT2]
        show topT d (insP (slT (atE I) d T2) (atE I) d 0 T2) = _
        rw [insP_congr (s := slT (atE I) d T2) (s' := tJ I1) d 0 T2 (fun j hj => by rw [Nat.zero_add]; exact (hsl j hj).symm)]
      rw [res]
      exact ⟨r', hR, rfl⟩
    have loop : ∀ (lv n : Nat) (J : Mm) (fr : List Nat) (m3 m4 : Option AV), okO m3 → okO m4 → lv ≤ d → n = pthT (nsR I) (tJ I1) r lv → InvA (VR i) (nsR I) (nsR J) (tJ I1) (atE I) d r lv fr → cnOK J → rd J 241 i = r → (∀ c, c ≠ 212 → c ≠ 242 → c ≠ 243 → c ≠ 244 → c ≠ 245 → c ≠ 246 → c ≠ 250 → J c = I1 c) → (∀ k, k ≠ 41 → k ≠ 42 → rd J 212 k = rd I 212 k) → rd J 212 42 = lv → (∀ m, m < 2160 → ¬ VR i m → nsR J m = nsR I m ∧ rd J 242 m = rd I 242 m) → (∀ m, VR i m → (rd J 242 m ≠ 0 ↔ m ∈ fpT (nsR I) d r ++ fr)) → (∀ m ∈ fr, VR i m ∧ m ∉ fpT (nsR I) d r) → fr.Nodup → fr.length + lv ≤ d → GoA 152 34 [some (.inr (3, 0, 0)), some (.inl (1, (i : Int))), some (.inl (1, (n : Int))), m3, m4] [] J (rV K) := by
      intro lv
      induction lv using Nat.strongRecOn with
      | ind lv ih =>
        intro n J fr m3 m4 o3 o4 hlv hnn hA hcJ hrJ g1 g2 g3 g4 g5 g6 g7 g8
        have nin : n ∈ fpT (nsR I) d r := by rw [hnn]; exact hpath _ hlv
        have nv := fpl _ nin
        have nV := fpv _ nin
        have cb := hcJ n nv
        have hfr : ∀ m ∈ fr, m ∉ fpT (nsR I) d r := fun m hm => (g6 m hm).2
        have FR : FrR I J i := ⟨fun c a0 a1 a2 a3 a4 a5 a6 a7 a8 a9 => by rw [g1 c a0 a2 a3 a4 a5 a6 a7, f1 c a0 a8 a9], g2, fun j _ => by rw [rd_of (g1 _ (by omega) (by omega) (by omega) (by omega) (by omega) (by omega) (by omega)), rd_of (f1 _ (by omega) (by omega) (by omega))], g4⟩
        refine b_r_comesToTree_34 (inRn (by omega)) (inRn (by omega)) o3 o4 ?_
        rw [Int.toNat_natCast]
        refine ⟨by omega, fun c5 => ?_, fun c5 => ?_⟩
        · -- a node is split
          have hex : ∃ n0, VR i n0 ∧ rd J 242 n0 = 0 := free_ex (fpT (nsR I) d r ++ fr) (by rw [List.length_append]; omega) (fun m hm hz => (g5 m hm).mp hz)
          obtain ⟨n0, nv0, nz0⟩ := hex
          refine c_node hi nv0 nz0 ?_
          intro J1 q qV q0 u1 u2 u3 u4 u5 v3 ev3 iv3
          subst ev3
          have qv := VR_lt hi qV
          have qnot : q ∉ fpT (nsR I) d r ++ fr := fun z => (g5 q qV).mpr z q0
          have qfp : q ∉ fpT (nsR I) d r := fun z => qnot (List.mem_append_left _ z)
          have qfr : q ∉ fr := fun z => qnot (List.mem_append_right _ z)
          have nq : n ≠ q := fun z => qfp (z ▸ nin)
          have s51 : rd J1 243 n = 5 := by rw [u3.2.2 n nq, c5]
          rw [show 5 * (n : Int) + 3 = ((5 * n + 3 : Nat) : Int) by omega, show 5 * (q : Int) = ((5 * q : Nat) : Int) by omega]
          refine c_copySlot (by omega) (by omega) ?_
          intro J2 w1 w2 w3
          rw [show 5 * (n : Int) + 4 = ((5 * n + 4 : Nat) : Int) by omega, show ((5 * q : Nat) : Int) + 1 = ((5 * q + 1 : Nat) : Int) by omega]
          refine c_copySlot (by omega) (by omega) ?_
          intro J3 x1 x2 x3
          have hAn := hA
          have half : ∀ (dd k : Nat) (J4 : Mm), k + dd = 3 → (∀ c, c ≠ 246 → J4 c = J3 c) → (∀ x, (x < 6 * q ∨ 6 * q + 6 ≤ x) → (x < 6 * n + 3 ∨ 6 * n + 6 ≤ x) → rd J4 246 x = rd J1 246 x) → (∀ x, x < k → rd J4 246 (6 * q + x) = rd J1 246 (6 * n + 3 + x)) → (∀ x, k ≤ x → x < 3 → rd J4 246 (6 * n + 3 + x) = rd J1 246 (6 * n + 3 + x)) → GoA 152 79 [some (.inr (3, 0, 0)), some (.inl (1, (i : Int))), some (.inl (1, (n : Int))), some (.inl (1, (q : Int))), some (.inl (1, (k : Int)))] [] J4 (rV K) := by
            intro dd
            induction dd with
            | succ dd ihd =>
              intro k J4 hk y1 y2 y3 y4
              refine b_r_comesToTree_79 (inRn (by omega)) (inRn (by omega)) (inRn (by omega)) (inRn (by omega)) ⟨fun z => absurd z (by omega), fun _ => ?_⟩
              have wa : wr (6 * (n : Int) + 3 + (k : Int)) = ((6 * n + 3 + k : Nat) : Int) := wrn _ (by omega) (by omega)
              have wb : wr (6 * (q : Int) + (k : Int)) = ((6 * q + k : Nat) : Int) := wrn _ (by omega) (by omega)
              rw [wa, wb, Int.toNat_natCast, Int.toNat_natCast, y4 k (Nat.le_refl _) (by omega)]
              refine ⟨by omega, by omega, ?_⟩
              intro I10 e10
              refine ⟨by omega, ?_⟩
              intro I11 e11 v4 ev4 _
              rw [wrn (k + 1) (by omega) (by omega)] at ev4
              subst ev4
              have kk : ∀ x, rd I11 246 x = if x = 6 * n + 3 + k then -1 else if x = 6 * q + k then rd J1 246 (6 * n + 3 + k) else rd J4 246 x := fun x => by
                rw [e11, rd_wt, if_pos rfl, wrx (by omega) (by omega)]
                by_cases c : x = 6 * n + 3 + k
                · rw [if_pos c, if_pos c]
                · rw [if_neg c, if_neg c, e10, rd_wt, if_pos rfl, wr_of (rd_in _ _ _)]
              refine ihd (k + 1) I11 (by omega) (fun c c6 => by rw [e11, wt_a _ _ _ _ c6, e10, wt_a _ _ _ _ c6, y1 c c6]) (fun x h1 h2 => by rw [kk, if_neg (by omega), if_neg (by omega), y2 x h1 h2]) (fun x hx => ?_) (fun x h1 h2 => by rw [kk, if_neg (by omega), if_neg (by omega), y4 x (by omega) h2])
              rw [kk, if_neg (by omega)]
              by_cases c : x = k
              · subst c; rw [if_pos rfl]
              · rw [if_neg (by omega), y3 x (by omega)]
            | zero =>
              intro k J4 hk y1 y2 y3 y4
              refine b_r_comesToTree_79 (inRn (by omega)) (inRn (by omega)) (inRn (by omega)) (inRn (by omega)) ⟨fun _ => ⟨by omega, ?_⟩, fun z => absurd (by omega) z⟩
              rw [Int.toNat_natCast]
              intro I2 e2
              refine ⟨by omega, ?_⟩
              rw [Int.toNat_natCast]
              intro I3 e3
              have c3 : ∀ m, rd I3 243 m = if m = n then 2 else if m = q then 2 else rd J 243 m := fun m => by
                rw [e3, rd_wt, if_pos rfl, wrx (by omega) (by omega)]
                by_cases ca : m = n
                · rw [if_pos ca, if_pos ca]
                · rw [if_neg ca, if_neg ca, e2, rd_wt, if_pos rfl, wrx (by omega) (by omega)]
                  by_cases cb : m = q
                  · rw [if_pos cb, if_pos cb]
                  · rw [if_neg cb, if_neg cb, rd_of (y1 _ (by omega)), rd_of (x1 _ (by omega) (by omega)), rd_of (w1 _ (by omega) (by omega)), u3.2.2 m cb]
              have s3 : ∀ p, sE I3 p = sE J3 p := fun p => sE_of (by rw [e3, wt_a _ _ _ _ (by omega), e2, wt_a _ _ _ _ (by omega), y1 _ (by omega)]) (by rw [e3, wt_a _ _ _ _ (by omega), e2, wt_a _ _ _ _ (by omega), y1 _ (by omega)]) p
              have s3o : ∀ p, (p < 5 * q ∨ 5 * q + 5 ≤ p) → sE I3 p = sE J p := fun p hp => by rw [s3, x3 p (by omega), w3 p (by omega), u3.1 p hp]
              have k3 : ∀ x, rd I3 246 x = rd J4 246 x := fun x => by rw [e3, rd_wt_a _ _ _ _ (by omega), e2, rd_wt_a _ _ _ _ (by omega)]
              have k1 : ∀ x, (x < 6 * q ∨ 6 * q + 6 ≤ x) → rd J1 246 x = rd J 246 x := u3.2.1
              have eqn : nsR I3 n = ((nsR J n).1.take 2, (nsR J n).2.take 3) := by
                unfold nsR
                congr 1
                · show sgA (sE I3) (5 * n) (rd I3 243 n).toNat = (sgA (sE J) (5 * n) (rd J 243 n).toNat).take 2
                  rw [c3, if_pos rfl, c5, show (5 : Int).toNat = 5 from rfl, sgA_take _ _ (by omega)]
                  exact sgA_congr (fun x hx => s3o _ (by have : x < 2 := hx; omega))
                · show seg (rd I3 246) (6 * n) ((rd I3 243 n).toNat + 1) = (seg (rd J 246) (6 * n) ((rd J 243 n).toNat + 1)).take 3
                  rw [c3, if_pos rfl, c5]
                  refine Eq.trans ?_ (sgA_take (rd J 246) (6 * n) (show 3 ≤ 6 by omega)).symm
                  refine seg_congr (n := 3) (fun x hx => ?_)
                  rw [k3, y2 _ (by omega) (by omega), k1 _ (by omega)]
              have eqq : nsR I3 q = ((nsR J n).1.drop 3, (nsR J n).2.drop 3) := by
                unfold nsR
                congr 1
                · show sgA (sE I3) (5 * q) (rd I3 243 q).toNat = (sgA (sE J) (5 * n) (rd J 243 n).toNat).drop 3
                  rw [c3, if_neg (Ne.symm nq), if_pos rfl, c5, show (5 : Int).toNat = 5 from rfl, sgA_drop _ _ (by omega)]
                  refine sgA_congr (n := 2) (fun x hx => ?_)
                  rw [s3]
                  have : x = 0 ∨ x = 1 := by omega
                  rcases this with rfl | rfl
                  · rw [Nat.add_zero, x3 _ (by omega), w2, u3.1 _ (by omega)]
                  · rw [x2, w3 _ (by omega), u3.1 _ (by omega)]
                · show seg (rd I3 246) (6 * q) ((rd I3 243 q).toNat + 1) = (seg (rd J 246) (6 * n) ((rd J 243 n).toNat + 1)).drop 3
                  rw [c3, if_neg (Ne.symm nq), if_pos rfl, c5]
                  refine Eq.trans ?_ (sgA_drop (rd J 246) (6 * n) (show 3 ≤ 6 by omega)).symm
                  refine seg_congr (n := 3) (fun x hx => ?_)
                  rw [k3, y3 x (by omega), k1 _ (by omega)]
              have eqm : ∀ m, m < 2160 → m ≠ n → m ≠ q → nsR I3 m = nsR J m := by
                intro m hm ca cb
                have cm := hcJ m hm
                have e := c3 m
                rw [if_neg ca, if_neg cb] at e
                unfold nsR rks rcs
                rw [e]
                congr 1
                · exact sgA_congr (fun x hx => s3o _ (by omega))
                · exact seg_congr (fun x hx => by rw [k3, y2 _ (by omega) (by omega), k1 _ (by omega)])
              have hx : (nsR J n).1[2]? = some (sE J (5 * n + 2)) := rks_get (by rw [c5]; decide)
              have l5 : (nsR J n).1.length = 5 := by show (rks J n).length = 5; rw [rks_len, c5]; rfl
              have fr3 : ∀ c, c ≠ 242 → c ≠ 243 → c ≠ 244 → c ≠ 245 → c ≠ 246 → I3 c = J c := fun c a2 a3 a4 a5 a6 => by rw [e3, wt_a _ _ _ _ a3, e2, wt_a _ _ _ _ a3, y1 c a6, x1 c a4 a5, w1 c a4 a5, u1 c a2 a3 a6]
              have tk3 : ∀ m, rd I3 242 m = if m = q then 1 else rd J 242 m := fun m => by rw [e3, rd_wt_a _ _ _ _ (by omega), e2, rd_wt_a _ _ _ _ (by omega), rd_of (y1 _ (by omega)), rd_of (x1 _ (by omega) (by omega)), rd_of (w1 _ (by omega) (by omega)), u2]
              have cn3 : cnOK I3 := by
                intro m hm
                rw [c3]
                by_cases ca : m = n
                · rw [if_pos ca]; omega
                · rw [if_neg ca]
                  by_cases cb : m = q
                  · rw [if_pos cb]; omega
                  · rw [if_neg cb]; exact hcJ m hm
              rw [show 5 * (n : Int) + 2 = ((5 * n + 2 : Nat) : Int) by omega]
              refine c_takeSlot (by omega) ?_
              intro I4 z1 z2 z3
              have at4 : atE I4 = sE J (5 * n + 2) := by rw [z3, s3o _ (by omega)]
              have ns4 : nsR I4 = nsR I3 := nsR_of (z1 _ (by omega) (by omega)) (z1 _ (by omega) (by omega)) (z1 _ (by omega) (by omega)) (z1 _ (by omega) (by omega))
              have d4 : rd I4 212 42 = lv := by rw [z2 42 (by omega), rd_of (fr3 _ (by omega) (by omega) (by omega) (by omega) (by omega)), g3]
              have cn4 : cnOK I4 := fun m hm => by rw [rd_of (z1 _ (by omega) (by omega))]; exact cn3 m hm
              rw [d4]
              refine ⟨fun z0 => ?_, fun z0 => ?_⟩
              · -- a new root
                have lv0 : lv = 0 := by omega
                subst lv0
                have nr : n = r := hnn
                subst nr
                have hex : ∃ n0, VR i n0 ∧ rd I4 242 n0 = 0 := free_ex (q :: (fpT (nsR I) d n ++ fr)) (by rw [List.length_cons, List.length_append]; omega) (fun m hm hz => by
                  rw [rd_of (z1 _ (by omega) (by omega)), tk3] at hz
                  by_cases c : m = q
                  · rw [c]; exact List.mem_cons_self
                  · rw [if_neg c] at hz
                    exact List.mem_cons_of_mem _ ((g5 m hm).mp hz))
                obtain ⟨p0, pv0, pz0⟩ := hex
                refine c_node hi pv0 pz0 ?_
                intro I6 p pV pz a1 a2 a3 a4 a5 v4 ev4 iv4
                subst ev4
                have pv := VR_lt hi pV
                rw [rd_of (z1 _ (by omega) (by omega)), tk3] at pz
                have pq : p ≠ q := fun z => by rw [if_pos z] at pz; omega
                rw [if_neg pq] at pz
                have pnot : p ∉ fpT (nsR I) d n ++ fr := fun z => (g5 p pV).mpr z pz
                have pfp : p ∉ fpT (nsR I) d n := fun z => pnot (List.mem_append_left _ z)
                have pfr : p ∉ fr := fun z => pnot (List.mem_append_right _ z)
                have pn : p ≠ n := fun z => pfp (z ▸ nin)
                rw [wrn (6 * p) (by omega) (by omega), Int.toNat_natCast]
                refine ⟨by omega, ?_⟩
                intro I7 e7
                have c7 : ∀ m, rd I7 243 m = rd I6 243 m := fun m => by rw [e7, rd_wt_a _ _ _ _ (by omega)]
                have s7 : ∀ x, sE I7 x = sE I6 x := fun x => sE_of (by rw [e7, wt_a _ _ _ _ (by omega)]) (by rw [e7, wt_a _ _ _ _ (by omega)]) x
                have nf7 : NFr I4 I7 p := ⟨fun x hx => by rw [s7, a3.1 x hx], fun x hx => by rw [e7, rd_wt_k _ _ _ _ (by omega), a3.2.1 x hx], fun m hm => by rw [c7, a3.2.2 m hm]⟩
                refine c_addAt (s := 0) (k := 0) (ri := (q : Int)) pv (by rw [c7, a4]; rfl) (by omega) (by omega) (inRn (by omega)) ?_
                intro I8 b1 b2 b3 b4 b5
                refine ⟨by omega, ?_⟩
                rw [Int.toNat_natCast]
                intro I9 e9
                have at7 : atE I7 = sE J (5 * n + 2) := by
                  rw [← at4]
                  refine atE_of ?_ ?_
                  · rw [e7, wt_a _ _ _ _ (by omega), a1 _ (by omega) (by omega) (by omega)]
                  · rw [e7, rd_wt_a _ _ _ _ (by omega), rd_of (a1 _ (by omega) (by omega) (by omega))]
                have ns9 : nsR I9 = nsR I8 := nsR_of (by rw [e9, wt_a _ _ _ _ (by omega)]) (by rw [e9, wt_a _ _ _ _ (by omega)]) (by rw [e9, wt_a _ _ _ _ (by omega)]) (by rw [e9, wt_a _ _ _ _ (by omega)])
                have nsp : nsR I9 p = ([sE J (5 * n + 2)], [(n : Int), (q : Int)]) := by
                  rw [ns9]
                  have r7 : rks I7 p = [] := by unfold rks; rw [c7, a4]; rfl
                  have k7 : rcs I7 p = [(n : Int)] := by
                    unfold rcs; rw [c7, a4]
                    show [rd I7 246 (6 * p)] = _
                    rw [e7, rd_wt_s _ _ _ (inRn (by omega))]
                  show (rks I8 p, rcs I8 p) = _
                  rw [b4, b5, r7, k7, at7]
                  rfl
                have cn7 : cnOK I7 := by
                  intro m hm
                  rw [c7]
                  by_cases c : m = p
                  · subst c; rw [a4]; omega
                  · rw [a3.2.2 m c]; exact cn4 m hm
                have nsm : ∀ m, m < 2160 → m ≠ p → nsR I9 m = nsR I3 m := fun m hm c => by rw [ns9, nsR_off b2 cn7 hm c, nsR_off nf7 cn4 hm c, ns4]
                have hA0 := hAn
                obtain ⟨y1', y2', y3'⟩ := invA_root (ns := nsR J) (ns1 := nsR I3) (ns2 := nsR I9) hpk hfr g7 hA0 l5 qV qfr qfp pV pfr pfp (Ne.symm pq) eqn eqq (fun m hm ca cb => eqm m (VR_lt hi hm) ca cb) nsp (fun m hm c => nsm m (VR_lt hi hm) c)
                have fr9 : ∀ c, c ≠ 212 → c ≠ 241 → c ≠ 242 → c ≠ 243 → c ≠ 244 → c ≠ 245 → c ≠ 246 → c ≠ 250 → I9 c = J c := fun c a0 a1' a2' a3' a4' a5' a6 a7 => by
                  rw [e9, wt_a _ _ _ _ a1', b1 c a3' a4' a5' a6, e7, wt_a _ _ _ _ a6, a1 c a2' a3' a6, z1 c a0 a7, fr3 c a2' a3' a4' a5' a6]
                have tk9 : ∀ m, rd I9 242 m = if m = p then 1 else if m = q then 1 else rd J 242 m := fun m => by
                  rw [e9, rd_wt_a _ _ _ _ (by omega), rd_of (b1 _ (by omega) (by omega) (by omega) (by omega)), e7, rd_wt_a _ _ _ _ (by omega), a2, rd_of (z1 _ (by omega) (by omega)), tk3]
                have nd9 : (fpT (nsR I) d n ++ fr ++ [q, p]).Nodup := by
                  rw [List.append_assoc]
                  refine List.nodup_append.mpr ⟨t4, List.nodup_append.mpr ⟨g7, by simp [Ne.symm pq], fun a ha b hb => ?_⟩, fun a ha b hb => ?_⟩
                  · simp at hb
                    rcases hb with rfl | rfl
                    · exact fun z => qfr (z ▸ ha)
                    · exact fun z => pfr (z ▸ ha)
                  · rcases List.mem_append.mp hb with hb | hb
                    · exact fun z => hfr b hb (z ▸ ha)
                    · simp at hb
                      rcases hb with rfl | rfl
                      · exact fun z => qfp (z ▸ ha)
                      · exact fun z => pfp (z ▸ ha)
                refine done I9 (d + 1) p ?_ ⟨?_, by rw [e9, rd_wt_s _ _ _ (inRn (by omega))], y2', (y3'.nodup_iff.mpr nd9), fun m hm => ?_⟩ ?_
                · refine ⟨fun c a0 a1' a2' a3' a4' a5' a6 a7 a8 a9 => by rw [fr9 c a0 a1' a2' a3' a4' a5' a6 a7, FR.1 c a0 a1' a2' a3' a4' a5' a6 a7 a8 a9], fun k ka kb => ?_, fun j hj => ?_, fun m hm hv => ?_⟩
                  · rw [e9, rd_wt_a _ _ _ _ (by omega), rd_of (b1 _ (by omega) (by omega) (by omega) (by omega)), e7, rd_wt_a _ _ _ _ (by omega), rd_of (a1 _ (by omega) (by omega) (by omega)), z2 k ka, rd_of (fr3 _ (by omega) (by omega) (by omega) (by omega) (by omega)), g2 k ka kb]
                  · rw [e9, rd_wt_k _ _ _ _ hj, rd_of (b1 _ (by omega) (by omega) (by omega) (by omega)), e7, rd_wt_a _ _ _ _ (by omega), rd_of (a1 _ (by omega) (by omega) (by omega)), rd_of (z1 _ (by omega) (by omega)), rd_of (fr3 _ (by omega) (by omega) (by omega) (by omega) (by omega)), FR.2.2.1 j hj]
                  · have cp : m ≠ p := fun z => hv (z ▸ pV)
                    have cq : m ≠ q := fun z => hv (z ▸ qV)
                    have cn : m ≠ n := fun z => hv (z ▸ nV)
                    rw [nsm m hm cp, eqm m hm cn cq, tk9, if_neg cp, if_neg cq]
                    exact g4 m hm hv
                · intro m hm
                  rw [e9, rd_wt_a _ _ _ _ (by omega)]
                  by_cases c : m = p
                  · subst c; rw [b3]; omega
                  · rw [b2.2.2 m c]; exact cn7 m hm
                · rw [tk9, y3'.mem_iff]
                  simp only [List.mem_append, List.mem_cons, List.not_mem_nil, or_false]
                  by_cases cp : m = p
                  · rw [if_pos cp]
                    exact ⟨fun _ => Or.inr (Or.inr cp), fun _ => by decide⟩
                  · rw [if_neg cp]
                    by_cases cq : m = q
                    · rw [if_pos cq]
                      exact ⟨fun _ => Or.inr (Or.inl cq), fun _ => by decide⟩
                    · rw [if_neg cq, g5 m hm, List.mem_append]
                      exact ⟨fun z => Or.inl z, fun z => z.elim id (fun z => z.elim (fun z => absurd z cq) (fun z => absurd z cp))⟩
                · obtain ⟨b1', b2', b3', b4'⟩ := hA0
                  rw [Nat.sub_zero] at b2'
                  have b2'' : mkT (nsR J) d n = insP (tJ I1) (atE I) d 0 (mkT (nsR I) d n) := b2'
                  rw [y1', ← b2'', topT_5 (x := sE J (5 * n + 2))]
                  · rw [kyT_mk]; exact l5
                  · rw [kyT_mk]; exact hx
              · obtain ⟨l', rfl⟩ : ∃ l', lv = l' + 1 := ⟨lv - 1, by omega⟩
                intro I5 e5
                have d5 : rd I5 212 42 = l' := by rw [e5, rd_wt_s _ _ _ ⟨by omega, by omega⟩]; omega
                rw [d5, Int.toNat_natCast]
                have p5 : rd I5 251 l' = pthT (nsR I) (tJ I1) r l' := by rw [e5, rd_wt_a _ _ _ _ (by omega), rd_of (z1 _ (by omega) (by omega)), rd_of (fr3 _ (by omega) (by omega) (by omega) (by omega) (by omega)), rd_of (g1 _ (by omega) (by omega) (by omega) (by omega) (by omega) (by omega) (by omega)), (f5 l' (by omega)).1]
                have q5 : rd I5 252 l' = tJ I1 l' := by rw [e5, rd_wt_a _ _ _ _ (by omega), rd_of (z1 _ (by omega) (by omega)), rd_of (fr3 _ (by omega) (by omega) (by omega) (by omega) (by omega)), rd_of (g1 _ (by omega) (by omega) (by omega) (by omega) (by omega) (by omega) (by omega)), (f5 l' (by omega)).2.1]
                rw [p5, q5]
                refine ⟨by omega, by omega, ?_⟩
                obtain ⟨o1, o2⟩ := invA_off hpk (i := l') (by omega) hfr hA.1
                have pin := hpath l' (by omega)
                have pv := fpl _ pin
                have ppn : pthT (nsR I) (tJ I1) r l' ≠ n := by rw [hnn]; exact (pth_off hpk (by omega) hlv).1
                have ppq : pthT (nsR I) (tJ I1) r l' ≠ q := fun z => qfp (z ▸ pin)
                have l4' : (nsR J (pthT (nsR I) (tJ I1) r l')).1.length ≤ 4 := by rw [o1]; exact h4 _ pin
                have l4'' : (rks J (pthT (nsR I) (tJ I1) r l')).length ≤ 4 := l4'
                rw [rks_len] at l4''
                have zb := hcJ _ pv
                obtain ⟨sp, hsp⟩ : ∃ sp : Nat, rd J 243 (pthT (nsR I) (tJ I1) r l') = sp := ⟨(rd J 243 (pthT (nsR I) (tJ I1) r l')).toNat, by omega⟩
                have c5' : ∀ m, rd I5 243 m = rd I3 243 m := fun m => by rw [e5, rd_wt_a _ _ _ _ (by omega), rd_of (z1 _ (by omega) (by omega))]
                have sle' : tJ I1 l' ≤ sp := by
                  have := hpk.2.2 l' (by omega)
                  rw [← o1] at this
                  have h' : tJ I1 l' ≤ (rks J (pthT (nsR I) (tJ I1) r l')).length := this
                  rw [rks_len, hsp] at h'
                  omega
                refine c_addAt (s := sp) pv (by rw [c5', c3, if_neg ppn, if_neg ppq, hsp]) (by omega) sle' (inRn (by omega)) ?_
                intro I6 b1 b2 b3 b4 b5
                have d6 : rd I6 212 42 = l' := by rw [rd_of (b1 _ (by omega) (by omega) (by omega) (by omega)), d5]
                rw [d6, Int.toNat_natCast]
                refine ⟨by omega, ?_⟩
                intro v2 ev2 iv2
                have p6 : rd I6 251 l' = pthT (nsR I) (tJ I1) r l' := by rw [rd_of (b1 _ (by omega) (by omega) (by omega) (by omega)), p5]
                rw [p6] at ev2
                subst ev2
                have cn5 : cnOK I5 := fun m hm => by rw [c5']; exact cn3 m hm
                have ns5 : nsR I5 = nsR I3 := by
                  rw [← ns4]
                  exact nsR_of (by rw [e5, wt_a _ _ _ _ (by omega)]) (by rw [e5, wt_a _ _ _ _ (by omega)]) (by rw [e5, wt_a _ _ _ _ (by omega)]) (by rw [e5, wt_a _ _ _ _ (by omega)])
                have at5 : atE I5 = sE J (5 * n + 2) := by
                  rw [← at4]
                  exact atE_of (by rw [e5, wt_a _ _ _ _ (by omega)]) (by rw [e5, rd_wt_k _ _ _ _ (by omega)])
                have h6p : nsR I6 (pthT (nsR I) (tJ I1) r l') = (insL (nsR I3 (pthT (nsR I) (tJ I1) r l')).1 (tJ I1 l') (sE J (5 * n + 2)), insL (nsR I3 (pthT (nsR I) (tJ I1) r l')).2 (tJ I1 l' + 1) (q : Int)) := by
                  rw [← ns5]
                  show (rks I6 _, rcs I6 _) = _
                  rw [b4, b5, at5]
                  rfl
                have h6m : ∀ m, m < 2160 → m ≠ pthT (nsR I) (tJ I1) r l' → nsR I6 m = nsR I3 m := fun m hm c => by rw [nsR_off b2 cn5 hm c, ns5]
                have hA2 := invA_split (ns1 := nsR I3) hpk (show l' < d by omega) hfr g7 hA (by rw [← hnn]; exact l5) (by rw [← hnn]; exact hx) qV qfr qfp (by rw [← hnn]; exact eqn) (by rw [← hnn]; exact eqq) (fun m hm ca cb => eqm m (VR_lt hi hm) (by rw [hnn]; exact ca) cb) h6p (fun m hm c => h6m m (VR_lt hi hm) c)
                have fr6 : ∀ c, c ≠ 212 → c ≠ 242 → c ≠ 243 → c ≠ 244 → c ≠ 245 → c ≠ 246 → c ≠ 250 → I6 c = J c := fun c a0 a2' a3' a4' a5' a6 a7 => by
                  rw [b1 c a3' a4' a5' a6, e5, wt_a _ _ _ _ a0, z1 c a0 a7, fr3 c a2' a3' a4' a5' a6]
                have tk6 : ∀ m, rd I6 242 m = if m = q then 1 else rd J 242 m := fun m => by
                  rw [rd_of (b1 _ (by omega) (by omega) (by omega) (by omega)), e5, rd_wt_a _ _ _ _ (by omega), rd_of (z1 _ (by omega) (by omega)), tk3]
                refine ih l' (by omega) _ I6 (fr ++ [q]) _ _ (okO_s (okF_1 (inRn (by omega)) 1)) (okO_s (okF_1 (inRn (by omega)) 1)) (by omega) rfl hA2 ?_ ?_ (fun c a0 a2' a3' a4' a5' a6 a7 => by rw [fr6 c a0 a2' a3' a4' a5' a6 a7, g1 c a0 a2' a3' a4' a5' a6 a7]) (fun k ka kb => ?_) d6 (fun m hm hv => ?_) (fun m hm => ?_) (fun m hm => ?_) ?_ (by rw [List.length_append]; simp; omega)
                · intro m hm
                  by_cases c : m = pthT (nsR I) (tJ I1) r l'
                  · subst c; rw [b3]; omega
                  · rw [b2.2.2 m c]; exact cn5 m hm
                · rw [rd_of (fr6 _ (by omega) (by omega) (by omega) (by omega) (by omega) (by omega) (by omega)), hrJ]
                · rw [rd_of (b1 _ (by omega) (by omega) (by omega) (by omega)), e5, rd_wt_k _ _ _ _ kb, z2 k ka, rd_of (fr3 _ (by omega) (by omega) (by omega) (by omega) (by omega)), g2 k ka kb]
                · have cq : m ≠ q := fun z => hv (z ▸ qV)
                  have cn : m ≠ n := fun z => hv (z ▸ nV)
                  have cp : m ≠ pthT (nsR I) (tJ I1) r l' := fun z => hv (z ▸ fpv _ pin)
                  rw [h6m m hm cp, eqm m hm cn cq, tk6, if_neg cq]
                  exact g4 m hm hv
                · rw [tk6]
                  simp only [List.mem_append, List.mem_cons, List.not_mem_nil, or_false]
                  by_cases cq : m = q
                  · rw [if_pos cq]
                    exact ⟨fun _ => Or.inr (Or.inr cq), fun _ => by decide⟩
                  · rw [if_neg cq, g5 m hm, List.mem_append]
                    exact ⟨fun z => z.elim Or.inl (fun z => Or.inr (Or.inl z)), fun z => z.elim Or.inl (fun z => z.elim Or.inr (fun z => absurd z cq))⟩
                · rcases List.mem_append.mp hm with hm | hm
                  · exact g6 m hm
                  · rw [List.mem_singleton.mp hm]; exact ⟨qV, qfp⟩
                · refine List.nodup_append.mpr ⟨g7, by simp, fun a ha b hb => ?_⟩
                  rw [List.mem_singleton.mp hb]
                  exact fun z => qfr (z ▸ ha)
          refine half 3 0 J3 (by omega) (fun _ _ => rfl) (fun x _ _ => ?_) (fun x hx => absurd hx (by omega)) (fun x _ _ => ?_)
          · rw [rd_of (x1 _ (by omega) (by omega)), rd_of (w1 _ (by omega) (by omega))]
          · rw [rd_of (x1 _ (by omega) (by omega)), rd_of (w1 _ (by omega) (by omega))]
        · -- nothing more to split
          have hl4 : (nsR J (pthT (nsR I) (tJ I1) r lv)).1.length ≤ 4 := by
            rw [← hnn]
            show (rks J n).length ≤ 4
            rw [rks_len]; omega
          obtain ⟨a1, a2⟩ := invA_top hpk h4 hfr _ hlv hA hl4
          obtain ⟨b1, b2, b3, b4⟩ := a1
          rw [Nat.sub_zero] at b2 b3 b4
          have b2' : mkT (nsR J) d r = insP (tJ I1) (atE I) d 0 (mkT (nsR I) d r) := b2
          have b4' : (fpT (nsR J) d r).Perm (fpT (nsR I) d r ++ fr) := b4
          refine done J d r FR ⟨hcJ, hrJ, b3, b4'.nodup_iff.mpr (List.nodup_append.mpr ⟨t4, g7, fun a ha b hb z => hfr b hb (z ▸ ha)⟩), fun m hm => by rw [b4'.mem_iff]; exact g5 m hm⟩ ?_
          rw [← b2', topT_4]
          rw [kyT_mk]; exact a2
    refine c_addAt (s := sz) (k := tJ I1 d) (ri := -1) leafv (by rw [rd_of (f1 _ (by omega) (by omega) (by omega)), hsz]) (by omega) sle ⟨by omega, by omega⟩ ?_
    intro J x1 x2 x3 x4 x5
    have hA : InvA (VR i) (nsR I) (nsR J) (tJ I1) (atE I) d r d [] := by
      refine invA_start hpk ?_ (fun m hm cm => by rw [nsR_off x2 c1 (VR_lt hi hm) cm, n1])
      show (rks J _, rcs J _) = _
      rw [x4, x5, at1]
      show (insL (nsR I1 _).1 _ _, insL (nsR I1 _).2 _ _) = _
      rw [n1]
    refine loop d _ J [] none none okO_n okO_n (Nat.le_refl _) rfl hA ?_ ?_ (fun c a0 a2 a3 a4 a5 a6 a7 => x1 c a3 a4 a5 a6) (fun k ka kb => by rw [rd_of (x1 _ (by omega) (by omega) (by omega) (by omega)), f2 k kb]) (by rw [rd_of (x1 _ (by omega) (by omega) (by omega) (by omega)), f3]) (fun m hm hv => ?_) (fun m hm => ?_) (fun m hm => by cases hm) List.nodup_nil (by simp)
    · intro m hm
      by_cases c : m = pthT (nsR I) (tJ I1) r d
      · subst c; rw [x3]; omega
      · rw [x2.2.2 m c]; exact c1 m hm
    · rw [rd_of (x1 _ (by omega) (by omega) (by omega) (by omega)), rd_of (f1 _ (by omega) (by omega) (by omega)), t2]
    · have c : m ≠ pthT (nsR I) (tJ I1) r d := fun z => hv (z ▸ fpv _ leafin)
      rw [nsR_off x2 c1 hm c, n1, rd_of (x1 _ (by omega) (by omega) (by omega) (by omega)), rd_of (f1 _ (by omega) (by omega) (by omega))]
      exact ⟨rfl, rfl⟩
    · rw [List.append_nil, rd_of (x1 _ (by omega) (by omega) (by omega) (by omega)), rd_of (f1 _ (by omega) (by omega) (by omega))]
      exact t5 m hm
