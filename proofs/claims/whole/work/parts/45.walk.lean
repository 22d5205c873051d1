/-! THE CLASS: the walk through a tree -/
def dmT {α : Type} : (h : Nat) → Int → Tr α h → List (α × Int)
  | 0, l, t => List.map (fun x => (x, l)) t
  | h + 1, l, t => itr (t.1.map (fun x => (x, l))) (t.2.map (dmT h (l + 1)))
def mvT {α : Type} : (h : Nat) → Tr α h → Nat
  | 0, t => List.length t + 2
  | h + 1, t => t.1.length + 2 + (t.2.map (mvT h)).sum
theorem dm_fst {α : Type} : ∀ (h : Nat) (l : Int) (t : Tr α h), (dmT h l t).map Prod.fst = inT h t
  | 0, l, t => by
    show (List.map (fun x => (x, l)) t).map Prod.fst = t
    have : ∀ a : List α, (a.map (fun x => (x, l))).map Prod.fst = a := fun a => by rw [List.map_map]; exact List.map_id _
    exact this t
  | h + 1, l, t => by
    show (itr (t.1.map (fun x => (x, l))) (t.2.map (dmT h (l + 1)))).map Prod.fst = itr t.1 (t.2.map (inT h))
    rw [itr_map, List.map_map, List.map_map]
    congr 1
    · exact List.map_id _
    · exact List.map_congr_left (fun u _ => dm_fst h (l + 1) u)
theorem dm_snd {α : Type} : ∀ (h : Nat) (l : Int) (t : Tr α h), (dmT h l t).map Prod.snd = dpT h l t
  | 0, l, t => by
    have : ∀ a : List α, (a.map (fun x => (x, l))).map Prod.snd = a.map (fun _ => l) := fun a => by rw [List.map_map]; rfl
    exact this t
  | h + 1, l, t => by
    show (itr (t.1.map (fun x => (x, l))) (t.2.map (dmT h (l + 1)))).map Prod.snd = itr (t.1.map (fun _ => l)) (t.2.map (dpT h (l + 1)))
    rw [itr_map, List.map_map, List.map_map]
    congr 1
    exact List.map_congr_left (fun u _ => dm_snd h (l + 1) u)
theorem dm_len {α : Type} (h : Nat) (l : Int) (t : Tr α h) : (dmT h l t).length = (inT h t).length := by rw [← dm_fst h l t, List.length_map]
theorem sum_mv {β : Type} {f g a : β → Nat} : ∀ {l : List β}, (∀ x ∈ l, a x = f x + 2 * g x) → (l.map a).sum = (l.map f).sum + 2 * (l.map g).sum
  | [], _ => rfl
  | x :: l, h => by
    have h1 := h x List.mem_cons_self
    have h2 := sum_mv (l := l) (fun y hy => h y (List.mem_cons_of_mem _ hy))
    simp only [List.map_cons, List.sum_cons]
    omega
theorem mv_eq {α : Type} {V : Nat → Prop} {ns : Nat → List α × List Int} : ∀ {h n : Nat}, wfT V ns h n → mvT h (mkT ns h n) = (inT h (mkT ns h n)).length + 2 * ndT h (mkT ns h n)
  | 0, n, hw => rfl
  | h + 1, n, hw => by
    have e1 : (inT (h + 1) (mkT ns (h + 1) n)).length = (ns n).1.length + (((ns n).2.map (fun c => mkT ns h c.toNat)).map (fun u => (inT h u).length)).sum := by
      show (itr (ns n).1 (((ns n).2.map (fun c => mkT ns h c.toNat)).map (inT h))).length = _
      rw [itr_cnt (by rw [List.length_map, List.length_map]; exact hw.2.1), List.map_map]
      rfl
    have e2 : (((ns n).2.map (fun c => mkT ns h c.toNat)).map (mvT h)).sum = (((ns n).2.map (fun c => mkT ns h c.toNat)).map (fun u => (inT h u).length)).sum + 2 * (((ns n).2.map (fun c => mkT ns h c.toNat)).map (ndT h)).sum := by
      refine sum_mv (fun u hu => ?_)
      obtain ⟨c, hc, rfl⟩ := List.mem_map.mp hu
      exact mv_eq (hw.2.2 c hc).2
    show (ns n).1.length + 2 + (((ns n).2.map (fun c => mkT ns h c.toNat)).map (mvT h)).sum = _ + 2 * (1 + (((ns n).2.map (fun c => mkT ns h c.toNat)).map (ndT h)).sum)
    rw [e1, e2]
    omega
def rRw {X : Type} (p : List X) (K : List X) : List (List X) → List X
  | [] => []
  | u :: D => p ++ itr K (u :: D)
theorem rRw_step {X : Type} {p K : List X} {u : List X} {D : List (List X)} (h : D.length = K.length) : rRw p K (u :: D) = p ++ (u ++ rRw K.head?.toList K.tail D) := by
  cases K with
  | nil =>
    have : D = [] := List.length_eq_zero_iff.mp h
    subst this
    show p ++ u = p ++ (u ++ [])
    rw [List.append_nil]
  | cons x K =>
    cases D with
    | nil => simp at h
    | cons v D => rfl
theorem itr_rep {X : Type} : ∀ (K : List X), itr K (List.replicate (K.length + 1) []) = K
  | [] => rfl
  | x :: K => by
    show [] ++ x :: itr K (List.replicate (K.length + 1) []) = x :: K
    rw [itr_rep K]
    rfl
def WkS (I J : Mm) (B : Nat) (Dn : List (Int × Int)) : Prop :=
  (∀ c, c ≠ B + 2 → c ≠ B + 10 → c ≠ B + 11 → c ≠ B + 12 → c ≠ B + 13 → J c = I c) ∧ (∀ k, k ≠ 15 → rd J (B + 2) k = rd I (B + 2) k) ∧ rd J (B + 2) 15 = Dn.length ∧
  ∀ i x, Dn[i]? = some x → rd J (B + 12) i = x.1 ∧ rd J (B + 13) i = x.2
def PA (J : Mm) (B l n k : Nat) (P Q : Nat → Int) : Prop := rd J (B + 10) l = n ∧ rd J (B + 11) l = k ∧ ∀ j, j < l → rd J (B + 10) j = P j ∧ rd J (B + 11) j = Q j
def pk (I : Mm) (B l n k : Nat) : List (Int × Int) := if k = 0 then [] else [(rd I (B + 6) (5 * n + (k - 1)), (l : Int))]
set_option maxHeartbeats 2000000 in
theorem wk_pop {B l n m sz : Nat} {I J : Mm} {Dn : List (Int × Int)} {P Q : Nat → Int} {rt : AR → Mm → Prop} {m3 m4 : Option AV} (hB : isX B) (hm3 : okO m3) (hm4 : okO m4) (nv : n < 348) (hsize : rd I (B + 8) n = sz) (hs5 : sz ≤ 5) (hl : l ≤ 10) (hS : WkS I J B Dn) (hP : PA J B l n (sz + 1) P Q) (hm : m ≤ 2434)
    (h : ∀ v3 v4, okO v3 → okO v4 → GoA 81 34 [some (.inr (2, B, 2)), some (.inl (1, (l : Int) - 1)), some (.inl (1, ((m + 1 : Nat) : Int))), v3, v4] [] J rt) : GoA 81 34 [some (.inr (2, B, 2)), some (.inl (1, (l : Int))), some (.inl (1, (m : Int))), m3, m4] [] J rt := by
  refine b_walkAll_34 hB (inRn (by omega)) (inRn (by omega)) hm3 hm4 ⟨fun z => absurd z (by omega), fun _ => ⟨fun z => absurd z (by omega), fun _ => ?_⟩⟩
  rw [Int.toNat_natCast, hP.1, hP.2.1]
  refine ⟨by omega, ?_⟩
  intro v3 e3 i3
  subst e3
  refine ⟨by omega, ?_⟩
  intro v4 e4 i4
  subst e4
  have r8 : rd J (B + 8) n = sz := by rw [rd_of (hS.1 _ (by omega) (by omega) (by omega) (by omega) (by omega)), hsize]
  rw [Int.toNat_natCast, r8]
  refine ⟨by omega, fun z => absurd z (by omega), fun _ => ?_⟩
  intro v1 e1 _ v2 e2 _
  rw [wrx (by omega) (by omega)] at e1
  rw [wrn (m + 1) (by omega) (by omega)] at e2
  subst e1; subst e2
  exact h _ _ (okO_s (okF_1 i3 1)) (okO_s (okF_1 i4 1))
set_option maxHeartbeats 4000000 in
theorem wk_go {B l n k sz m : Nat} {I J : Mm} {Dn : List (Int × Int)} {P Q : Nat → Int} {rt : AR → Mm → Prop} {m3 m4 : Option AV} (hB : isX B) (hm3 : okO m3) (hm4 : okO m4) (nv : n < 348) (hsize : rd I (B + 8) n = sz) (hs5 : sz ≤ 5) (hk : k ≤ sz) (hl : l ≤ 10) (hS : WkS I J B Dn) (hP : PA J B l n k P Q) (hb : Dn.length + (pk I B l n k).length ≤ 648) (hm : m ≤ 2434)
    (hL : rd I (B + 7) (6 * n) = -1 → ∀ J1 v3 v4, okO v3 → okO v4 → WkS I J1 B (Dn ++ pk I B l n k) → PA J1 B l n (k + 1) P Q → GoA 81 34 [some (.inr (2, B, 2)), some (.inl (1, (l : Int))), some (.inl (1, ((m + 1 : Nat) : Int))), v3, v4] [] J1 rt)
    (hI : ¬ rd I (B + 7) (6 * n) = -1 → ∀ J2 v3 v4, okO v3 → okO v4 → WkS I J2 B (Dn ++ pk I B l n k) → PA J2 B l n (k + 1) P Q → rd J2 (B + 10) (l + 1) = rd I (B + 7) (6 * n + k) → rd J2 (B + 11) (l + 1) = 0 → GoA 81 34 [some (.inr (2, B, 2)), some (.inl (1, ((l + 1 : Nat) : Int))), some (.inl (1, ((m + 1 : Nat) : Int))), v3, v4] [] J2 rt) :
    GoA 81 34 [some (.inr (2, B, 2)), some (.inl (1, (l : Int))), some (.inl (1, (m : Int))), m3, m4] [] J rt := by
  refine b_walkAll_34 hB (inRn (by omega)) (inRn (by omega)) hm3 hm4 ⟨fun z => absurd z (by omega), fun _ => ⟨fun z => absurd z (by omega), fun _ => ?_⟩⟩
  rw [Int.toNat_natCast, hP.1, hP.2.1]
  refine ⟨by omega, ?_⟩
  intro v3 e3 i3
  subst e3
  refine ⟨by omega, ?_⟩
  intro v4 e4 i4
  subst e4
  have r8 : rd J (B + 8) n = sz := by rw [rd_of (hS.1 _ (by omega) (by omega) (by omega) (by omega) (by omega)), hsize]
  rw [Int.toNat_natCast, r8]
  have ok3 := okO_s (okF_1 i3 1)
  have ok4 := okO_s (okF_1 i4 1)
  have w6 : wr ((n : Int) * 6) = ((6 * n : Nat) : Int) := wrn _ (by omega) (by omega)
  have w7 : wr (((n : Int) * 6) + (k : Int)) = ((6 * n + k : Nat) : Int) := wrn _ (by omega) (by omega)
  have wl : wr ((l : Int) + 1) = ((l + 1 : Nat) : Int) := wrn _ (by omega) (by omega)
  have wm : wr ((m : Int) + 1) = ((m + 1 : Nat) : Int) := wrn _ (by omega) (by omega)
  rw [w6, w7, wl, wm, Int.toNat_natCast, Int.toNat_natCast]
  refine ⟨by omega, fun _ => ⟨fun z0 => ?_, fun z0 => ?_⟩, fun z => absurd (by omega) z⟩
  · have k0 : k = 0 := by omega
    have p0 : pk I B l n k = [] := by unfold pk; rw [if_pos k0]
    rw [p0, List.append_nil] at hL hI
    refine ⟨by omega, by omega, ?_⟩
    intro I3 eI3
    try rw [hP.2.1] at eI3
    have hS3 : WkS I I3 B Dn := ⟨fun c k2 k10 k11 k12 k13 => by rw [eI3, wt_a _ _ _ _ k11, hS.1 c k2 k10 k11 k12 k13], fun j hj => by rw [eI3, rd_wt_a _ _ _ _ (by omega), hS.2.1 j hj], by rw [eI3, rd_wt_a _ _ _ _ (by omega), hS.2.2.1], fun i x hx => by rw [eI3, rd_wt_a _ _ _ _ (by omega), rd_wt_a _ _ _ _ (by omega)]; exact hS.2.2.2 i x hx⟩
    have hP3 : PA I3 B l n (k + 1) P Q := ⟨by rw [eI3, rd_wt_a _ _ _ _ (by omega)]; exact hP.1, by rw [eI3, rd_wt_s _ _ _ ⟨by omega, by omega⟩]; rfl, fun j hj => by rw [eI3, rd_wt_a _ _ _ _ (by omega), rd_wt_k _ _ _ _ (by omega)]; exact hP.2.2 j hj⟩
    have r7 : ∀ j, rd I3 (B + 7) j = rd I (B + 7) j := fun j => rd_of (hS3.1 _ (by omega) (by omega) (by omega) (by omega) (by omega)) j
    rw [r7]
    refine ⟨by omega, fun z => ?_, fun z => ⟨fun z2 => absurd z2 (by omega), fun _ => ?_⟩⟩
    · intro v2 e2 _
      subst e2
      exact hL z I3 _ _ ok3 ok4 hS3 hP3
    · intro v1 e1 _
      subst e1
      rw [Int.toNat_natCast, r7]
      refine ⟨by omega, by omega, ?_⟩
      intro I4 eI4
      refine ⟨by omega, ?_⟩
      intro I5 eI5 v2 e2 _
      subst e2
      refine hI z I5 _ _ ok3 ok4 ⟨fun c k2 k10 k11 k12 k13 => by rw [eI5, wt_a _ _ _ _ k11, eI4, wt_a _ _ _ _ k10, hS3.1 c k2 k10 k11 k12 k13], fun j hj => by rw [eI5, rd_wt_a _ _ _ _ (by omega), eI4, rd_wt_a _ _ _ _ (by omega), hS3.2.1 j hj], by rw [eI5, rd_wt_a _ _ _ _ (by omega), eI4, rd_wt_a _ _ _ _ (by omega), hS3.2.2.1], fun i x hx => by rw [eI5, rd_wt_a _ _ _ _ (by omega), rd_wt_a _ _ _ _ (by omega), eI4, rd_wt_a _ _ _ _ (by omega), rd_wt_a _ _ _ _ (by omega)]; exact hS3.2.2.2 i x hx⟩ ⟨by rw [eI5, rd_wt_a _ _ _ _ (by omega), eI4, rd_wt_k _ _ _ _ (by omega)]; exact hP3.1, by rw [eI5, rd_wt_k _ _ _ _ (by omega), eI4, rd_wt_a _ _ _ _ (by omega)]; exact hP3.2.1, fun j hj => by rw [eI5, rd_wt_a _ _ _ _ (by omega), rd_wt_k _ _ _ _ (by omega), eI4, rd_wt_k _ _ _ _ (by omega), rd_wt_a _ _ _ _ (by omega)]; exact hP3.2.2 j hj⟩ (by rw [eI5, rd_wt_a _ _ _ _ (by omega), eI4, rd_wt_s _ _ _ (rd_in _ _ _)]) (by rw [eI5, rd_wt_s _ _ _ ⟨by omega, by omega⟩])
  · have k0 : ¬ k = 0 := by omega
    have p0 : pk I B l n k = [(rd I (B + 6) (5 * n + (k - 1)), (l : Int))] := by unfold pk; rw [if_neg k0]
    rw [p0] at hL hI hb
    have hb' : Dn.length < 648 := by simp at hb; omega
    have w5 : wr ((((n : Int) * 5) + (k : Int)) - 1) = ((5 * n + (k - 1) : Nat) : Int) := wrn _ (by omega) (by omega)
    rw [w5, Int.toNat_natCast, hS.2.2.1, Int.toNat_natCast]
    refine ⟨by omega, fun z => absurd z (by omega), fun _ => ⟨by omega, ?_⟩⟩
    intro I9 eI9
    have r9 : rd I9 (B + 2) 15 = Dn.length := by rw [eI9, rd_wt_a _ _ _ _ (by omega), hS.2.2.1]
    rw [r9, Int.toNat_natCast]
    refine ⟨by omega, ?_⟩
    intro I10 eI10
    have r10 : rd I10 (B + 2) 15 = Dn.length := by rw [eI10, rd_wt_a _ _ _ _ (by omega), r9]
    rw [r10]
    intro I11 eI11
    have hS11 : WkS I I11 B (Dn ++ [(rd I (B + 6) (5 * n + (k - 1)), (l : Int))]) := by
      refine ⟨fun c k2 k10 k11 k12 k13 => by rw [eI11, wt_a _ _ _ _ k2, eI10, wt_a _ _ _ _ k13, eI9, wt_a _ _ _ _ k12, hS.1 c k2 k10 k11 k12 k13], fun j hj => by rw [eI11, rd_wt_k _ _ _ _ hj, eI10, rd_wt_a _ _ _ _ (by omega), eI9, rd_wt_a _ _ _ _ (by omega), hS.2.1 j hj], ?_, fun i x hx => ?_⟩
      · rw [eI11, rd_wt_s _ _ _ ⟨by omega, by omega⟩]
        simp
      · have q12 : rd I11 (B + 12) i = if i = Dn.length then rd I (B + 6) (5 * n + (k - 1)) else rd J (B + 12) i := by
          rw [eI11, rd_wt_a _ _ _ _ (by omega), eI10, rd_wt_a _ _ _ _ (by omega), eI9, rd_wt, if_pos rfl, rd_of (hS.1 _ (by omega) (by omega) (by omega) (by omega) (by omega)), wr_of (rd_in _ _ _)]
        have q13 : rd I11 (B + 13) i = if i = Dn.length then (l : Int) else rd J (B + 13) i := by
          rw [eI11, rd_wt_a _ _ _ _ (by omega), eI10, rd_wt, if_pos rfl, eI9, rd_wt_a _ _ _ _ (by omega), wrn l rfl (by omega)]
        rw [q12, q13]
        by_cases ci : i < Dn.length
        · rw [List.getElem?_append_left ci] at hx
          rw [if_neg (by omega), if_neg (by omega)]
          exact hS.2.2.2 i x hx
        · have ce : i = Dn.length := by
            have := (List.getElem?_eq_some_iff.mp hx).1
            simp at this
            omega
          subst ce
          simp at hx
          rw [if_pos rfl, if_pos rfl, ← hx]
          exact ⟨rfl, rfl⟩
    have hP11 : PA I11 B l n k P Q := by
      have a10 : ∀ j, rd I11 (B + 10) j = rd J (B + 10) j := fun j => by rw [eI11, rd_wt_a _ _ _ _ (by omega), eI10, rd_wt_a _ _ _ _ (by omega), eI9, rd_wt_a _ _ _ _ (by omega)]
      have a11 : ∀ j, rd I11 (B + 11) j = rd J (B + 11) j := fun j => by rw [eI11, rd_wt_a _ _ _ _ (by omega), eI10, rd_wt_a _ _ _ _ (by omega), eI9, rd_wt_a _ _ _ _ (by omega)]
      exact ⟨by rw [a10]; exact hP.1, by rw [a11]; exact hP.2.1, fun j hj => by rw [a10, a11]; exact hP.2.2 j hj⟩
    refine ⟨by omega, by omega, ?_⟩
    intro I3 eI3
    try rw [hP11.2.1] at eI3
    have hS3 : WkS I I3 B (Dn ++ [(rd I (B + 6) (5 * n + (k - 1)), (l : Int))]) := ⟨fun c k2 k10 k11 k12 k13 => by rw [eI3, wt_a _ _ _ _ k11, hS11.1 c k2 k10 k11 k12 k13], fun j hj => by rw [eI3, rd_wt_a _ _ _ _ (by omega), hS11.2.1 j hj], by rw [eI3, rd_wt_a _ _ _ _ (by omega), hS11.2.2.1], fun i x hx => by rw [eI3, rd_wt_a _ _ _ _ (by omega), rd_wt_a _ _ _ _ (by omega)]; exact hS11.2.2.2 i x hx⟩
    have hP3 : PA I3 B l n (k + 1) P Q := ⟨by rw [eI3, rd_wt_a _ _ _ _ (by omega)]; exact hP11.1, by rw [eI3, rd_wt_s _ _ _ ⟨by omega, by omega⟩]; rfl, fun j hj => by rw [eI3, rd_wt_a _ _ _ _ (by omega), rd_wt_k _ _ _ _ (by omega)]; exact hP11.2.2 j hj⟩
    have r7 : ∀ j, rd I3 (B + 7) j = rd I (B + 7) j := fun j => rd_of (hS3.1 _ (by omega) (by omega) (by omega) (by omega) (by omega)) j
    rw [r7]
    refine ⟨by omega, fun z => ?_, fun z => ⟨fun z2 => absurd z2 (by omega), fun _ => ?_⟩⟩
    · intro v2 e2 _
      subst e2
      exact hL z I3 _ _ ok3 ok4 hS3 hP3
    · intro v1 e1 _
      subst e1
      rw [Int.toNat_natCast, r7]
      refine ⟨by omega, by omega, ?_⟩
      intro I4 eI4
      refine ⟨by omega, ?_⟩
      intro I5 eI5 v2 e2 _
      subst e2
      refine hI z I5 _ _ ok3 ok4 ⟨fun c k2 k10 k11 k12 k13 => by rw [eI5, wt_a _ _ _ _ k11, eI4, wt_a _ _ _ _ k10, hS3.1 c k2 k10 k11 k12 k13], fun j hj => by rw [eI5, rd_wt_a _ _ _ _ (by omega), eI4, rd_wt_a _ _ _ _ (by omega), hS3.2.1 j hj], by rw [eI5, rd_wt_a _ _ _ _ (by omega), eI4, rd_wt_a _ _ _ _ (by omega), hS3.2.2.1], fun i x hx => by rw [eI5, rd_wt_a _ _ _ _ (by omega), rd_wt_a _ _ _ _ (by omega), eI4, rd_wt_a _ _ _ _ (by omega), rd_wt_a _ _ _ _ (by omega)]; exact hS3.2.2.2 i x hx⟩ ⟨by rw [eI5, rd_wt_a _ _ _ _ (by omega), eI4, rd_wt_k _ _ _ _ (by omega)]; exact hP3.1, by rw [eI5, rd_wt_k _ _ _ _ (by omega), eI4, rd_wt_a _ _ _ _ (by omega)]; exact hP3.2.1, fun j hj => by rw [eI5, rd_wt_a _ _ _ _ (by omega), rd_wt_k _ _ _ _ (by omega), eI4, rd_wt_k _ _ _ _ (by omega), rd_wt_a _ _ _ _ (by omega)]; exact hP3.2.2 j hj⟩ (by rw [eI5, rd_wt_a _ _ _ _ (by omega), eI4, rd_wt_s _ _ _ (rd_in _ _ _)]) (by rw [eI5, rd_wt_s _ _ _ ⟨by omega, by omega⟩])
set_option maxHeartbeats 4000000 in
theorem wk_sub {B : Nat} {I : Mm} {rt : AR → Mm → Prop} (hB : isX B) (hsz : szOK I B) : ∀ (g l n m : Nat) (J : Mm) (Dn : List (Int × Int)) (P Q : Nat → Int) (m3 m4 : Option AV), l + g ≤ 10 → wfT (fun m => m < 348) (nsC I B) g n → okO m3 → okO m4 → WkS I J B Dn → PA J B l n 0 P Q → Dn.length + (inT g (mkT (nsC I B) g n)).length ≤ 648 → m + mvT g (mkT (nsC I B) g n) ≤ 2435 →
    (∀ J' v3 v4, okO v3 → okO v4 → WkS I J' B (Dn ++ dmT g l (mkT (nsC I B) g n)) → (∀ j, j < l → rd J' (B + 10) j = P j ∧ rd J' (B + 11) j = Q j) → GoA 81 34 [some (.inr (2, B, 2)), some (.inl (1, (l : Int) - 1)), some (.inl (1, ((m + mvT g (mkT (nsC I B) g n) : Nat) : Int))), v3, v4] [] J' rt) →
    GoA 81 34 [some (.inr (2, B, 2)), some (.inl (1, (l : Int))), some (.inl (1, (m : Int))), m3, m4] [] J rt := by
  intro g
  induction g with
  | zero =>
    intro l n m J Dn P Q m3 m4 hlg hw hm3 hm4 hS hP hb hm hc
    have nv : n < 348 := hw.1
    have s5 := hsz n nv
    obtain ⟨sz, hz⟩ : ∃ sz : Nat, rd I (B + 8) n = sz := ⟨(rd I (B + 8) n).toNat, by omega⟩
    have tl : (tks I B n).length = sz := by rw [tks_len, hz, Int.toNat_natCast]
    have leaf : rd I (B + 7) (6 * n) = -1 := by
      obtain ⟨c0, hc0, hc1, hc2⟩ := kids0 hw
      have := (tcs_get (I := I) (B := B) hc0).1
      rw [hc1 rfl] at this
      exact this
    have bl : Dn.length + (tks I B n).length ≤ 648 := hb
    have ml : m + ((tks I B n).length + 2) ≤ 2435 := hm
    have nd : ∀ (e k : Nat) (J : Mm) (Dn' : List (Int × Int)) (m3 m4 : Option AV), k + e = sz + 1 → okO m3 → okO m4 → Dn' = Dn ++ ((tks I B n).take (k - 1)).map (fun x => (x, (l : Int))) → WkS I J B Dn' → PA J B l n k P Q → GoA 81 34 [some (.inr (2, B, 2)), some (.inl (1, (l : Int))), some (.inl (1, ((m + k : Nat) : Int))), m3, m4] [] J rt := by
      intro e
      induction e with
      | zero =>
        intro k J Dn' m3 m4 hk h3 h4 hD hS hP
        have ke : k = sz + 1 := by omega
        subst ke
        refine wk_pop hB h3 h4 nv hz (by omega) (by omega) hS hP (by omega) (fun v3 v4 o3 o4 => ?_)
        have := hc J v3 v4 o3 o4 (by
          show WkS I J B (Dn ++ (tks I B n).map (fun x => (x, (l : Int))))
          rw [hD, show sz + 1 - 1 = (tks I B n).length by omega, List.take_length] at hS
          exact hS) hP.2.2
        rw [show m + mvT 0 (mkT (nsC I B) 0 n) = m + (sz + 1) + 1 by show m + ((tks I B n).length + 2) = _; omega] at this
        exact this
      | succ e ih =>
        intro k J Dn' m3 m4 hk h3 h4 hD hS hP
        have dl : Dn'.length = Dn.length + (k - 1) := by
          rw [hD, List.length_append, List.length_map, List.length_take]
          omega
        refine wk_go hB h3 h4 nv hz (by omega) (by omega) (by omega) hS hP ?_ (by omega) (fun _ J1 v3 v4 o3 o4 hS1 hP1 => ?_) (fun z => absurd leaf z)
        · unfold pk
          by_cases k0 : k = 0
          · rw [if_pos k0]; simp; omega
          · rw [if_neg k0]; simp; omega
        · have := ih (k + 1) J1 (Dn' ++ pk I B l n k) v3 v4 (by omega) o3 o4 (by
            rw [hD, List.append_assoc]
            congr 1
            unfold pk
            by_cases k0 : k = 0
            · subst k0; simp
            · rw [if_neg k0]
              obtain ⟨k', rfl⟩ : ∃ k', k = k' + 1 := ⟨k - 1, by omega⟩
              rw [show k' + 1 - 1 = k' by omega, show k' + 1 + 1 - 1 = k' + 1 by omega, List.take_add_one, tks_get (by rw [hz]; omega)]
              simp) hS1 hP1
          rw [show m + (k + 1) = m + k + 1 by omega] at this
          exact this
    have := nd (sz + 1) 0 J Dn m3 m4 (by omega) hm3 hm4 (by simp) hS hP
    exact this
  | succ g ih =>
    intro l n m J Dn P Q m3 m4 hlg hw hm3 hm4 hS hP hb hm hc
    have nv : n < 348 := hw.1
    have s5 := hsz n nv
    obtain ⟨sz, hz⟩ : ∃ sz : Nat, rd I (B + 8) n = sz := ⟨(rd I (B + 8) n).toNat, by omega⟩
    have tl : (tks I B n).length = sz := by rw [tks_len, hz, Int.toNat_natCast]
    have cl : (tcs I B n).length = sz + 1 := by rw [tcs_len, hz, Int.toNat_natCast]
    have inner : ¬ rd I (B + 7) (6 * n) = -1 := by
      obtain ⟨c0, hc0, hc1, hc2⟩ := kids0 hw
      have h1 := (tcs_get (I := I) (B := B) hc0).1
      have h2 := hc2 (by omega)
      rw [show 6 * n + 0 = 6 * n by omega] at h1
      omega
    -- what is left at slot k
    have RR : ∃ R : Nat → List (Int × Int), ∀ k, R k = rRw (pk I B l n k) (((tks I B n).drop k).map (fun x => (x, (l : Int)))) (((tcs I B n).drop k).map (fun c => dmT g ((l : Int) + 1) (mkT (nsC I B) g c.toNat))) := ⟨_, fun _ => rfl⟩
    obtain ⟨R, hR⟩ := RR
    have MM : ∃ M : Nat → Nat, ∀ k, M k = ((tcs I B n).drop k).length + (((tcs I B n).drop k).map (fun c => mvT g (mkT (nsC I B) g c.toNat))).sum + 1 := ⟨_, fun _ => rfl⟩
    obtain ⟨M, hM⟩ := MM
    have cd : ∀ k, k ≤ sz → (tcs I B n).drop k = rd I (B + 7) (6 * n + k) :: (tcs I B n).drop (k + 1) := by
      intro k hk
      have h1 := kidI (I := I) (B := B) (n := n) (k := k) (by rw [hz]; omega)
      have h2 : (tcs I B n)[k]? = some (rd I (B + 7) (6 * n + k)) := h1
      rw [← (List.getElem?_eq_some_iff.mp h2).2, List.getElem_cons_drop]
    have Rs : ∀ k, k ≤ sz → R k = pk I B l n k ++ (dmT g ((l : Int) + 1) (mkT (nsC I B) g (rd I (B + 7) (6 * n + k)).toNat) ++ R (k + 1)) := by
      intro k hk
      rw [hR, hR, cd k hk, List.map_cons, rRw_step (by simp; omega)]
      congr 2
      by_cases ks : k < sz
      · have h1 := tks_get (I := I) (B := B) (n := n) (k := k) (by rw [hz]; omega)
        have h2 : (tks I B n).drop k = rd I (B + 6) (5 * n + k) :: (tks I B n).drop (k + 1) := by
          rw [← (List.getElem?_eq_some_iff.mp h1).2, List.getElem_cons_drop]
        rw [h2]
        simp only [List.map_cons, List.head?_cons, List.tail_cons, Option.toList_some]
        unfold pk
        rw [if_neg (by omega), show k + 1 - 1 = k by omega]
      · have : (tcs I B n).drop (k + 1) = [] := List.drop_of_length_le (by omega)
        rw [this]
        rfl
    have Re : R (sz + 1) = [] := by
      rw [hR, List.drop_of_length_le (l := tcs I B n) (by omega)]
      rfl
    have R0 : R 0 = dmT (g + 1) l (mkT (nsC I B) (g + 1) n) := by
      rw [hR]
      show rRw (pk I B l n 0) ((tks I B n).map (fun x => (x, (l : Int)))) ((tcs I B n).map (fun c => dmT g ((l : Int) + 1) (mkT (nsC I B) g c.toNat))) = itr ((tks I B n).map (fun x => (x, (l : Int)))) (((tcs I B n).map (fun c => mkT (nsC I B) g c.toNat)).map (dmT g ((l : Int) + 1)))
      rw [List.map_map]
      have h0 := cd 0 (by omega)
      rw [List.drop_zero] at h0
      rw [h0]
      rfl
    have Ms : ∀ k, k ≤ sz → M k = 1 + mvT g (mkT (nsC I B) g (rd I (B + 7) (6 * n + k)).toNat) + M (k + 1) := by
      intro k hk
      rw [hM, hM, cd k hk]
      simp only [List.length_cons, List.map_cons, List.sum_cons]
      omega
    have Me : M (sz + 1) = 1 := by
      rw [hM, List.drop_of_length_le (l := tcs I B n) (by omega)]
      rfl
    have M0 : M 0 = mvT (g + 1) (mkT (nsC I B) (g + 1) n) := by
      rw [hM]
      show (tcs I B n).length + ((tcs I B n).map (fun c => mvT g (mkT (nsC I B) g c.toNat))).sum + 1 = (tks I B n).length + 2 + (((tcs I B n).map (fun c => mkT (nsC I B) g c.toNat)).map (mvT g)).sum
      rw [List.map_map, cl, tl]
      show sz + 1 + _ + 1 = sz + 2 + ((tcs I B n).map (fun c => mvT g (mkT (nsC I B) g c.toNat))).sum
      omega
    have nd : ∀ (e k m' : Nat) (J : Mm) (Dn' : List (Int × Int)) (m3 m4 : Option AV), k + e = sz + 1 → okO m3 → okO m4 → Dn' ++ R k = Dn ++ R 0 → m' + M k = m + M 0 → WkS I J B Dn' → PA J B l n k P Q → GoA 81 34 [some (.inr (2, B, 2)), some (.inl (1, (l : Int))), some (.inl (1, (m' : Int))), m3, m4] [] J rt := by
      intro e
      induction e with
      | zero =>
        intro k m' J Dn' m3 m4 hk h3 h4 hD hMk hS hP
        have ke : k = sz + 1 := by omega
        subst ke
        rw [Re, List.append_nil] at hD
        rw [Me] at hMk
        refine wk_pop hB h3 h4 nv hz (by omega) (by omega) hS hP (by rw [M0] at hMk; omega) (fun v3 v4 o3 o4 => ?_)
        have := hc J v3 v4 o3 o4 (by rw [← R0, ← hD]; exact hS) hP.2.2
        rw [← M0, ← hMk] at this
        exact this
      | succ e ih2 =>
        intro k m' J Dn' m3 m4 hk h3 h4 hD hMk hS hP
        have kl : k ≤ sz := by omega
        have lenD : Dn'.length + (R k).length = Dn.length + (R 0).length := by
          have := congrArg List.length hD
          rw [List.length_append, List.length_append] at this
          exact this
        have l0 : Dn.length + (R 0).length ≤ 648 := by rw [R0, dm_len]; exact hb
        rw [Rs k kl, List.length_append, List.length_append, dm_len] at lenD
        rw [Ms k kl] at hMk
        have Mp : 1 ≤ M (k + 1) := by rw [hM]; omega
        have wk := hw.2.2 (rd I (B + 7) (6 * n + k)) (by
          have h1 := kidI (I := I) (B := B) (n := n) (k := k) (by rw [hz]; omega)
          exact List.mem_of_getElem? h1)
        refine wk_go hB h3 h4 nv hz (by omega) kl (by omega) hS hP (by omega) (by rw [M0] at hMk; omega) (fun z => absurd z inner) (fun _ J2 v3 v4 o3 o4 hS2 hP2 q10 q11 => ?_)
        refine ih (l + 1) (rd I (B + 7) (6 * n + k)).toNat (m' + 1) J2 (Dn' ++ pk I B l n k) (rd J2 (B + 10)) (rd J2 (B + 11)) v3 v4 (by omega) wk.2 o3 o4 hS2 ⟨by rw [q10]; omega, by rw [q11]; rfl, fun j _ => ⟨rfl, rfl⟩⟩ (by rw [List.length_append]; omega) (by rw [M0] at hMk; omega) ?_
        intro J' w3 w4 p3 p4 hS' hlow
        have := ih2 (k + 1) (m' + 1 + mvT g (mkT (nsC I B) g (rd I (B + 7) (6 * n + k)).toNat)) J' (Dn' ++ pk I B l n k ++ dmT g ((l + 1 : Nat) : Int) (mkT (nsC I B) g (rd I (B + 7) (6 * n + k)).toNat)) w3 w4 (by omega) p3 p4 (by
          rw [← hD, Rs k kl, List.append_assoc, List.append_assoc]
          rfl) (by omega) hS' ⟨by rw [(hlow l (by omega)).1]; exact hP2.1, by rw [(hlow l (by omega)).2]; exact hP2.2.1, fun j hj => by rw [(hlow j (by omega)).1, (hlow j (by omega)).2]; exact hP2.2.2 j hj⟩
        rw [show ((l + 1 : Nat) : Int) - 1 = (l : Int) by omega]
        exact this
    exact nd (sz + 1) 0 m J Dn m3 m4 (by omega) hm3 hm4 rfl rfl hS hP
theorem treeC_of {I I' : Mm} {B : Nat} {T : TS E} (h4 : I' (B + 4) = I (B + 4)) (h5 : I' (B + 5) = I (B + 5)) (h6 : I' (B + 6) = I (B + 6)) (h7 : I' (B + 7) = I (B + 7)) (h8 : I' (B + 8) = I (B + 8)) (h9 : I' (B + 9) = I (B + 9)) (h2 : ∀ k, k ≠ 11 → k ≠ 14 → k ≠ 15 → rd I' (B + 2) k = rd I (B + 2) k) {r : Nat} (hC : TrC I B T.1 r) (hT2 : T.2 = mapT (ent I B) T.1 (mkT (nsC I B) T.1 r)) (hW : WkC I' B T.1 (mkT (nsC I B) T.1 r)) : TreeC I' B T := by
  obtain ⟨t1, t2, t3, t4, t5, t6, t7⟩ := hC
  have n1 : nsC I' B = nsC I B := nsC_cg h6 h7 h8
  have e1 : ent I' B = ent I B := ent_cg h4
  have sp1 : spn I' B = spn I B := by
    unfold spn
    rw [h2 7 (by omega) (by omega) (by omega)]
    exact seg_congr (fun k _ => rd_of h9 _)
  have sp2 : spe I' B = spe I B := by
    unfold spe
    rw [h2 2 (by omega) (by omega) (by omega)]
    exact seg_congr (fun k _ => rd_of h5 _)
  exact ⟨r, ⟨szOK_cg h8 t1, by rw [h2 8 (by omega) (by omega) (by omega)]; exact t2, by rw [h2 7 (by omega) (by omega) (by omega)]; exact t3, by rw [h2 2 (by omega) (by omega) (by omega)]; exact t4, by rw [n1]; exact t5, by rw [n1, sp1]; exact t6, by rw [n1, sp2]; exact t7⟩, by rw [e1, n1]; exact hT2, by rw [n1]; exact hW⟩
/-- a tree stands where its cells stand -/
theorem treeC_fr {I I' : Mm} {B : Nat} {T : TS E} (h : ∀ c, B + 2 ≤ c → c ≤ B + 13 → I' c = I c) (hT : TreeC I B T) : TreeC I' B T := by
  obtain ⟨r, hC, hT2, hW⟩ := hT
  refine treeC_of (h _ (by omega) (by omega)) (h _ (by omega) (by omega)) (h _ (by omega) (by omega)) (h _ (by omega) (by omega)) (h _ (by omega) (by omega)) (h _ (by omega) (by omega)) (fun k _ _ _ => rd_of (h _ (by omega) (by omega)) k) hC hT2 ?_
  intro hw
  rw [rd_of (h _ (by omega) (by omega))] at hw ⊢
  obtain ⟨a, b, c⟩ := hW hw
  refine ⟨a, Eq.trans (seg_congr (fun k _ => rd_of (h _ (by omega) (by omega)) _)) b, Eq.trans (seg_congr (fun k _ => rd_of (h _ (by omega) (by omega)) _)) c⟩
/-- what a walk leaves as it was -/
def WFr (I I' : Mm) (B : Nat) : Prop := ∀ c, c ≠ B + 2 → c ≠ B + 10 → c ≠ B + 11 → c ≠ B + 12 → c ≠ B + 13 → I' c = I c
set_option maxHeartbeats 2000000 in
theorem c_walkAll {B : Nat} {T : TS E} {I : Mm} {K : Mm → Prop} (hB : isX B) (hT : TreeC I B T) (hg : good T) (hl : (lsT T).length ≤ 648)
    (hK : ∀ I' : Mm, WFr I I' B → TreeC I' B T → rd I' (B + 2) 14 ≠ 0 → K I') : CallV 81 [.inr (2, B, 2)] I K := by
  refine callV_of rfl (b_walkAll hB ⟨fun z => ?_, fun z => hK I (fun _ _ _ _ _ _ => rfl) hT z⟩)
  obtain ⟨h, T2⟩ := T
  obtain ⟨r, hC, hT2, hW⟩ := hT
  have hC0 : TrC I B h r := hC
  simp only at hT2 hC hW
  have hh : h ≤ 5 := ht_good hg (by omega)
  have len2 : (inT h (mkT (nsC I B) h r)).length = (lsT (⟨h, T2⟩ : TS E)).length := by
    show _ = (inT h T2).length
    rw [hT2, inT_map, List.length_map]
  have nd1 : 2 * ndT h (mkT (nsC I B) h r) ≤ (lsT (⟨h, T2⟩ : TS E)).length + 2 := by
    have := nd_good hg
    rw [hT2] at this
    simp only [ndT_map] at this
    rw [← hT2] at this
    exact this
  obtain ⟨t1, t2, t3, t4, t5, t6, t7⟩ := hC
  have mv := mv_eq t5
  have rv : r < 348 := wfT_V t5 r (fpT_self _ _ _)
  intro I1 eI1
  refine ⟨by omega, ?_⟩
  have r18 : rd I1 (B + 2) 8 = r := by rw [eI1, rd_wt_k _ _ _ _ (by omega), t2]
  rw [r18]
  intro I2 eI2
  refine ⟨by omega, ?_⟩
  intro I3 eI3
  have hS : WkS I I3 B [] := by
    refine ⟨fun c k2 k10 k11 k12 k13 => by rw [eI3, wt_a _ _ _ _ k11, eI2, wt_a _ _ _ _ k10, eI1, wt_a _ _ _ _ k2], fun k hk => by rw [eI3, rd_wt_a _ _ _ _ (by omega), eI2, rd_wt_a _ _ _ _ (by omega), eI1, rd_wt_k _ _ _ _ hk], by rw [eI3, rd_wt_a _ _ _ _ (by omega), eI2, rd_wt_a _ _ _ _ (by omega), eI1, rd_wt_s _ _ _ ⟨by omega, by omega⟩]; rfl, fun i x hx => ?_⟩
    simp at hx
  refine wk_sub hB t1 h 0 r 0 I3 [] (fun _ => 0) (fun _ => 0) none none (by omega) t5 okO_n okO_n hS ⟨by rw [eI3, rd_wt_a _ _ _ _ (by omega), eI2, rd_wt_s _ _ _ (inRn (by omega))], by rw [eI3, rd_wt_s _ _ _ ⟨by omega, by omega⟩]; rfl, fun j hj => absurd hj (by omega)⟩ (by rw [len2]; simp; omega) (by omega) ?_
  intro J v3 v4 o3 o4 hSJ _
  rw [List.nil_append] at hSJ
  refine b_walkAll_34 hB (inRx (by omega) (by omega)) (inRn (by omega)) o3 o4 ⟨fun z => absurd z (by omega), fun _ => ⟨fun _ => ?_, fun z => absurd (by omega) z⟩⟩
  intro I' eI'
  have fr : WFr I I' B := fun c k2 k10 k11 k12 k13 => by rw [eI', wt_a _ _ _ _ k2, hSJ.1 c k2 k10 k11 k12 k13]
  refine hK I' fr ?_ (by rw [eI', rd_wt_s _ _ _ ⟨by omega, by omega⟩]; decide)
  refine treeC_of (T := ⟨h, T2⟩) (r := r) (fr _ (by omega) (by omega) (by omega) (by omega) (by omega)) (fr _ (by omega) (by omega) (by omega) (by omega) (by omega)) (fr _ (by omega) (by omega) (by omega) (by omega) (by omega)) (fr _ (by omega) (by omega) (by omega) (by omega) (by omega)) (fr _ (by omega) (by omega) (by omega) (by omega) (by omega)) (fr _ (by omega) (by omega) (by omega) (by omega) (by omega)) (fun k _ k14 k15 => by rw [eI', rd_wt_k _ _ _ _ k14, hSJ.2.1 k k15]) hC0 hT2 ?_
  intro _
  show rd I' (B + 2) 15 = _ ∧ _ ∧ _
  have dl := dm_len h ((0 : Nat) : Int) (mkT (nsC I B) h r)
  refine ⟨by rw [eI', rd_wt_k _ _ _ _ (by omega), hSJ.2.2.1, dl], ?_, ?_⟩
  · refine seg_ext rfl (fun k hk => ?_)
    obtain ⟨xx, hx⟩ : ∃ xx, (dmT h ((0 : Nat) : Int) (mkT (nsC I B) h r))[k]? = some xx := ⟨_, List.getElem?_eq_getElem (by rw [dl]; exact hk)⟩
    have := hSJ.2.2.2 k _ hx
    rw [Nat.zero_add, eI', rd_wt_a _ _ _ _ (by omega), this.1]
    have hf := dm_fst h ((0 : Nat) : Int) (mkT (nsC I B) h r)
    show (inT h (mkT (nsC I B) h r))[k]? = _
    rw [← hf, List.getElem?_map, hx]
    rfl
  · refine seg_ext (by rw [← dl, ← dm_snd h 0, List.length_map]; rfl) (fun k hk => ?_)
    obtain ⟨xx, hx⟩ : ∃ xx, (dmT h ((0 : Nat) : Int) (mkT (nsC I B) h r))[k]? = some xx := ⟨_, List.getElem?_eq_getElem (by rw [dl]; exact hk)⟩
    have := hSJ.2.2.2 k _ hx
    rw [Nat.zero_add, eI', rd_wt_a _ _ _ _ (by omega), this.2]
    have hf := dm_snd h ((0 : Nat) : Int) (mkT (nsC I B) h r)
    show (dpT h ((0 : Nat) : Int) (mkT (nsC I B) h r))[k]? = _
    rw [← hf, List.getElem?_map, hx]
    rfl
def ew (e : E) : Nat → Int
  | 0 => e.1
  | 1 => e.2.1
  | 2 => e.2.2.1
  | _ => e.2.2.2
theorem dpT_map {α β : Type} (f : α → β) : ∀ (h : Nat) (l : Int) (t : Tr α h), dpT h l (mapT f h t) = dpT h l t
  | 0, l, t => by
    have : ∀ a : List α, (a.map f).map (fun _ => l) = a.map (fun _ => l) := fun a => by rw [List.map_map]; rfl
    exact this t
  | h + 1, l, t => by
    show itr ((t.1.map f).map (fun _ => l)) ((t.2.map (mapT f h)).map (dpT h (l + 1))) = itr (t.1.map (fun _ => l)) (t.2.map (dpT h (l + 1)))
    rw [List.map_map, List.map_map]
    congr 1
    exact List.map_congr_left (fun u _ => dpT_map f h (l + 1) u)
set_option maxHeartbeats 2000000 in
theorem c_wordAt {B p w : Nat} {T : TS E} {I : Mm} {K : Int → Mm → Prop} {fa fb : Nat} {e : E} (hB : isX B) (hT : TreeC I B T) (hg : good T) (hl : (lsT T).length ≤ 648) (he : (lsT T)[p]? = some e) (hw : w < 4)
    (hK : ∀ I' : Mm, WFr I I' B → TreeC I' B T → K (ew e w) I') : CallZ 63 [.inr (2, B, 2), .inl (fa, (p : Int)), .inl (fb, (w : Int))] I K := by
  have pl := (List.getElem?_eq_some_iff.mp he).1
  refine callZ_fl (as' := [.inr (2, B, 2), .inl (1, (p : Int)), .inl (1, (w : Int))]) rfl ?_
  refine callZ_of rfl (b_wordAt hB (inRn (by omega)) (inRn (by omega)) ?_)
  refine c_walkAll hB hT hg hl (fun I1 fr hT1 hw1 => ?_)
  have hT1' := hT1
  obtain ⟨r, hC, hT2, hW⟩ := hT1
  obtain ⟨a, b, c⟩ := hW hw1
  have len2 : (inT T.1 (mkT (nsC I1 B) T.1 r)).length = (lsT T).length := by
    show _ = (inT T.1 T.2).length
    rw [hT2, inT_map, List.length_map]
  have hx : (inT T.1 (mkT (nsC I1 B) T.1 r))[p]? = some (rd I1 (B + 12) p) := by
    rw [← b, seg_get _ _ (by rw [len2]; exact pl), Nat.zero_add]
  have qb := ran_mem (hC.2.2.2.2.2.2.mem_iff.mp (List.mem_append_left _ (List.mem_of_getElem? hx)))
  obtain ⟨q, hq⟩ : ∃ q : Nat, rd I1 (B + 12) p = q := ⟨(rd I1 (B + 12) p).toNat, by omega⟩
  have ee : e = ent I1 B (q : Int) := by
    have h1 : lsT T = (inT T.1 (mkT (nsC I1 B) T.1 r)).map (ent I1 B) := by
      show inT T.1 T.2 = _
      rw [hT2, inT_map]
    rw [h1, List.getElem?_map, hx, hq] at he
    exact (Option.some.inj he).symm
  have wq : wr (((q : Int) * 4) + (w : Int)) = ((4 * q + w : Nat) : Int) := wrn _ (by omega) (by omega)
  rw [Int.toNat_natCast, hq, wq, Int.toNat_natCast]
  refine ⟨by omega, by omega, ?_⟩
  have : rd I1 (B + 4) (4 * q + w) = ew e w := by
    rw [ee]
    unfold ent en4
    rw [Int.toNat_natCast]
    rcases w with _ | _ | _ | _ | w
    · rfl
    · rfl
    · rfl
    · rfl
    · omega
  show K (rd I1 (B + 4) (4 * q + w)) I1
  rw [this]
  exact hK I1 fr hT1'
set_option maxHeartbeats 2000000 in
theorem c_depthAt {B p : Nat} {T : TS E} {I : Mm} {K : Int → Mm → Prop} {fa : Nat} {d : Int} (hB : isX B) (hT : TreeC I B T) (hg : good T) (hl : (lsT T).length ≤ 648) (hp : p < (lsT T).length) (he : (dpT T.1 0 T.2)[p]? = some d)
    (hK : ∀ I' : Mm, WFr I I' B → TreeC I' B T → K d I') : CallZ 64 [.inr (2, B, 2), .inl (fa, (p : Int))] I K := by
  refine callZ_fl (as' := [.inr (2, B, 2), .inl (1, (p : Int))]) rfl ?_
  refine callZ_of rfl (b_depthAt hB (inRn (by omega)) ?_)
  refine c_walkAll hB hT hg hl (fun I1 fr hT1 hw1 => ?_)
  have hT1' := hT1
  obtain ⟨r, hC, hT2, hW⟩ := hT1
  obtain ⟨a, b, c⟩ := hW hw1
  have len2 : (inT T.1 (mkT (nsC I1 B) T.1 r)).length = (lsT T).length := by
    show _ = (inT T.1 T.2).length
    rw [hT2, inT_map, List.length_map]
  have hx : (dpT T.1 0 (mkT (nsC I1 B) T.1 r))[p]? = some (rd I1 (B + 13) p) := by
    rw [← c, seg_get _ _ (by rw [len2]; exact hp), Nat.zero_add]
  rw [hT2, dpT_map, hx] at he
  rw [Int.toNat_natCast]
  refine ⟨by omega, ?_⟩
  show K (rd I1 (B + 13) p) I1
  rw [Option.some.inj he]
  exact hK I1 fr hT1'
