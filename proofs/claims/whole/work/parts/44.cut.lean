/-! an entry goes: over stores of any kind -/
def lget {α : Type} (l : List α) (k : Nat) : Option α := l[k]?
def gP {α : Type} (s : Nat → Nat) : (h : Nat) → Nat → Nat → Tr α h → α → Option α → Prop
  | 0, i, v, t, y, x => v = 0 ∧ lget t (s i) = some y ∧ x = none
  | h + 1, i, 0, t, y, x => t.1[s i]? = some y ∧ ∃ u, t.2[s i]? = some u ∧ (∀ j, j ≤ h → s (i + 1 + j) = rmT h u j) ∧ x = mxT h u
  | h + 1, i, v + 1, t, y, x => ∃ u, t.2[s i]? = some u ∧ gP s h (i + 1) v u y x
def rG {α : Type} (s : Nat → Nat) (h i v : Nat) (t : Tr α h) (x : Option α) : Tr α h := match x with
  | some x => repP s (i + v) x h i t
  | none => t
set_option maxHeartbeats 1000000 in
theorem delG_ok {α : Type} {s : Nat → Nat} {y : α} {x : Option α} : ∀ {h i a v : Nat} {t : Tr α h}, fil h a 4 t → (0 < h → 1 ≤ a) → gP s h i v t y x → fil h (a - 1) 4 (delP s h i (rG s h i v t x)) ∧ ∃ A B, inT h t = A ++ y :: B ∧ inT h (delP s h i (rG s h i v t x)) = A ++ B
  | 0, i, a, v, t, hf, ha, hn => by
    obtain ⟨hv, hk0, hx⟩ := hn
    subst hx
    have hk : ∀ l : List α, lget l (s i) = some y → s i < l.length ∧ l = l.take (s i) ++ y :: l.drop (s i + 1) := fun l z => ⟨(List.getElem?_eq_some_iff.mp z).1, sp1 z⟩
    obtain ⟨kl, kq⟩ := hk t hk0
    have hf' : a ≤ List.length t ∧ List.length t ≤ 4 := hf
    refine ⟨?_, List.take (s i) t, List.drop (s i + 1) t, kq, rfl⟩
    show a - 1 ≤ (remL t (s i)).length ∧ (remL t (s i)).length ≤ 4
    rw [remL_len t kl]
    omega
  | h + 1, i, a, v, t, hf, ha, hn => by
    obtain ⟨f1, f2, f3, f4⟩ := hf
    have a1 := ha (by omega)
    have fin : ∀ (K : List α) (u w : Tr α h), t.2[s i]? = some u → s i ≤ t.1.length → K.length = t.1.length → fil h 1 4 w → fil (h + 1) (a - 1) 4 (mendT h (s i) ((K, t.2.set (s i) w) : Tr α (h + 1))) ∧ inT (h + 1) (mendT h (s i) ((K, t.2.set (s i) w) : Tr α (h + 1))) = pre (K.take (s i)) ((t.2.take (s i)).map (inT h)) ++ (inT h w ++ pos (K.drop (s i)) ((t.2.drop (s i + 1)).map (inT h))) := by
      intro K u w hu' kle hK hv
      have m := mend_ok (k := s i) (a := a) (K := K) (D := t.2.set (s i) w) (c := w) (by rw [List.length_set, hK]; exact f3) (by omega) (by omega) (by omega) (fun j w hj hw => by
        rw [List.getElem?_set, if_neg (Ne.symm hj)] at hw
        exact f4 w (List.mem_of_getElem? hw)) (by rw [List.getElem?_set_self (by omega)]) hv
      exact ⟨m.1, m.2.trans (inT_at (by omega) hu')⟩
    cases v with
    | zero =>
      obtain ⟨hk, u, hu', ds, hx0⟩ := hn
      have um := List.mem_of_getElem? hu'
      have kl := (List.getElem?_eq_some_iff.mp hk).1
      have hin : inT (h + 1) t = pre (t.1.take (s i)) ((t.2.take (s i)).map (inT h)) ++ (inT h u ++ pos (t.1.drop (s i)) ((t.2.drop (s i + 1)).map (inT h))) := inT_at0 f3 hu'
      obtain ⟨z, hz, g1, g2⟩ := rm_ok (s := s) (i := i + 1) (f4 u um) (by omega) ds
      rw [hz] at hx0
      subst hx0
      have r1 : rG s (h + 1) i 0 t (some z) = (t.1.set (s i) z, t.2) := repP_e rfl
      rw [r1]
      have hu2 : (((t.1.set (s i) z, t.2) : Tr α (h + 1))).2[s i]? = some u := hu'
      rw [delP_s hu2]
      obtain ⟨m1, m2⟩ := fin (t.1.set (s i) z) u (delP s h (i + 1) u) hu' (by omega) (by simp) g1
      refine ⟨m1, pre (t.1.take (s i)) ((t.2.take (s i)).map (inT h)) ++ inT h u, ?_⟩
      have hd : t.1.drop (s i) = y :: t.1.drop (s i + 1) := by
        rw [← (List.getElem?_eq_some_iff.mp hk).2, List.getElem_cons_drop]
      cases hd2 : (t.2.drop (s i + 1)).map (inT h) with
      | nil =>
        have : ((t.2.drop (s i + 1)).map (inT h)).length = 0 := by rw [hd2]; rfl
        simp at this
        omega
      | cons d dd =>
        refine ⟨d ++ pos (t.1.drop (s i + 1)) dd, ?_, ?_⟩
        · rw [hin, hd, hd2]
          show _ ++ (_ ++ (y :: (d ++ _))) = _
          simp
        · refine m2.trans ?_
          have q1 : (t.1.set (s i) z).take (s i) = t.1.take (s i) := by rw [List.take_set, List.set_eq_of_length_le (by simp; omega)]
          have q2 : (t.1.set (s i) z).drop (s i) = z :: t.1.drop (s i + 1) := by
            rw [set_sp hk, List.drop_append, List.length_take, Nat.min_eq_left (by omega), Nat.sub_self, List.drop_of_length_le (by simp; omega)]
            rfl
          rw [q1, q2, hd2]
          show _ ++ (_ ++ (z :: (d ++ _))) = _
          rw [g2]
          simp
    | succ v =>
      obtain ⟨u, hu', hg⟩ := hn
      have um := List.mem_of_getElem? hu'
      have kl := (List.getElem?_eq_some_iff.mp hu').1
      have hin : inT (h + 1) t = pre (t.1.take (s i)) ((t.2.take (s i)).map (inT h)) ++ (inT h u ++ pos (t.1.drop (s i)) ((t.2.drop (s i + 1)).map (inT h))) := inT_at0 f3 hu'
      obtain ⟨g1, A, B, gA, gB⟩ := delG_ok (f4 u um) (fun _ => by omega) hg
      have key : delP s (h + 1) i (rG s (h + 1) i (v + 1) t x) = mendT h (s i) ((t.1, t.2.set (s i) (delP s h (i + 1) (rG s h (i + 1) v u x))) : Tr α (h + 1)) := by
        cases x with
        | none =>
          show delP s (h + 1) i t = _
          rw [delP_s hu']
          rfl
        | some x =>
          show delP s (h + 1) i (repP s (i + (v + 1)) x (h + 1) i t) = mendT h (s i) (t.1, t.2.set (s i) (delP s h (i + 1) (repP s (i + 1 + v) x h (i + 1) u)))
          rw [repP_s (by omega) hu', show i + (v + 1) = i + 1 + v by omega]
          have hu3 : (((t.1, t.2.set (s i) (repP s (i + 1 + v) x h (i + 1) u)) : Tr α (h + 1))).2[s i]? = some (repP s (i + 1 + v) x h (i + 1) u) := by
            show (t.2.set (s i) _)[s i]? = _
            rw [List.getElem?_set_self (by omega)]
          rw [delP_s hu3]
          show mendT h (s i) (t.1, (t.2.set (s i) _).set (s i) _) = _
          rw [List.set_set]
      rw [key]
      obtain ⟨m1, m2⟩ := fin t.1 u (delP s h (i + 1) (rG s h (i + 1) v u x)) hu' (by omega) rfl g1
      refine ⟨m1, pre (t.1.take (s i)) ((t.2.take (s i)).map (inT h)) ++ A, B ++ pos (t.1.drop (s i)) ((t.2.drop (s i + 1)).map (inT h)), ?_, ?_⟩
      · rw [hin, gA]; simp
      · rw [m2, gB]; simp
section GP
variable {α : Type} {V : Nat → Prop} {ns : Nat → List α × List Int} {y : α}
theorem sh_i {s : Nat → Nat} {i : Nat} : (fun k => s (i + 1 + k)) = (fun k => s (i + (k + 1))) := funext (fun k => by rw [show i + 1 + k = i + (k + 1) by omega])
theorem gP_leaf {s : Nat → Nat} : ∀ {h n i : Nat}, wfT V ns h n → (∀ j, j < h → s (i + j) ≤ (ns (pthT ns (fun k => s (i + k)) n j)).1.length) → (ns (pthT ns (fun k => s (i + k)) n h)).1[s (i + h)]? = some y → gP s h i h (mkT ns h n) y none
  | 0, n, i, hw, hs, hy => ⟨rfl, hy, rfl⟩
  | h + 1, n, i, hw, hs, hy => by
    have h0 : s i ≤ (ns n).1.length := hs 0 (by omega)
    obtain ⟨c, hc, c0, wc, ec⟩ := kid_of hw h0
    refine ⟨_, mkT_k hc, gP_leaf wc (fun j hj => ?_) ?_⟩
    · have := hs (j + 1) (by omega)
      rw [pthT_shift (s := fun k => s (i + k)) (c := c.toNat) ec.symm j] at this
      rw [sh_i, show i + 1 + j = i + (j + 1) by omega]
      exact this
    · rw [pthT_shift (s := fun k => s (i + k)) (c := c.toNat) ec.symm h] at hy
      rw [sh_i, show i + 1 + h = i + (h + 1) by omega]
      exact hy
theorem gP_in {s : Nat → Nat} : ∀ {h n i d : Nat}, d < h → wfT V ns h n → (∀ j, j ≤ d → s (i + j) ≤ (ns (pthT ns (fun k => s (i + k)) n j)).1.length) → (ns (pthT ns (fun k => s (i + k)) n d)).1[s (i + d)]? = some y → (∀ j, d < j → j < h → s (i + j) = (ns (pthT ns (fun k => s (i + k)) n j)).1.length) → s (i + h) = (ns (pthT ns (fun k => s (i + k)) n h)).1.length - 1 → gP s h i d (mkT ns h n) y ((ns (pthT ns (fun k => s (i + k)) n h)).1.getLast?)
  | 0, n, i, d, hd, _, _, _, _, _ => absurd hd (by omega)
  | h + 1, n, i, d, hd, hw, hs, hy, hr, he => by
    have h0 : s i ≤ (ns n).1.length := hs 0 (by omega)
    obtain ⟨c, hc, c0, wc, ec⟩ := kid_of hw h0
    have sh := pthT_shift (ns := ns) (s := fun k => s (i + k)) (c := c.toNat) ec.symm
    cases d with
    | zero =>
      obtain ⟨i1, i2⟩ := rm_of (s := fun k => s (i + (k + 1))) wc (fun j hj => by rw [← sh j]; exact hr (j + 1) (by omega) (by omega)) (by rw [← sh h]; exact he)
      refine ⟨hy, _, mkT_k hc, fun j hj => ?_, ?_⟩
      · rw [show i + 1 + j = i + (j + 1) by omega]
        exact i1 j hj
      · rw [i2, sh h]
    | succ d =>
      refine ⟨_, mkT_k hc, ?_⟩
      have := gP_in (s := s) (i := i + 1) (d := d) (n := c.toNat) (by omega) wc (fun j hj => by rw [sh_i, ← sh j, show i + 1 + j = i + (j + 1) by omega]; exact hs (j + 1) (by omega)) (by rw [sh_i, ← sh d, show i + 1 + d = i + (d + 1) by omega]; exact hy) (fun j h1 h2 => by rw [sh_i, ← sh j, show i + 1 + j = i + (j + 1) by omega]; exact hr (j + 1) (by omega) (by omega)) (by rw [sh_i, ← sh h, show i + 1 + h = i + (h + 1) by omega]; exact he)
      rw [sh_i, ← sh h] at this
      exact this
theorem fil_low2 : ∀ {h n a b : Nat}, fil h a b (mkT ns h n) → ∀ m ∈ fpT ns h n, m ≠ n → 2 ≤ (ns m).1.length
  | 0, n, a, b, hf, m, hm, hne => absurd (List.mem_singleton.mp hm) hne
  | h + 1, n, a, b, hf, m, hm, hne => by
    obtain ⟨f1, f2, f3, f4⟩ := hf
    rcases List.mem_cons.mp hm with e | e
    · exact absurd e hne
    · obtain ⟨c, hc, hm⟩ := List.mem_flatMap.mp e
      have := fil_low (f4 (mkT ns h c.toNat) (List.mem_map.mpr ⟨c, hc, rfl⟩)) m hm
      exact this.elim id id
end GP
theorem lsT_shr {α : Type} : ∀ {h : Nat} {t : Tr α h} {a b : Nat}, fil h a b t → lsT (shrT h t) = inT h t
  | 0, t, _, _, _ => rfl
  | h + 1, t, a, b, hf => by
    obtain ⟨f1, f2, f3, f4⟩ := hf
    by_cases c : t.1.length = 0
    · obtain ⟨u, hu⟩ : ∃ u, t.2[0]? = some u := ⟨_, List.getElem?_eq_getElem (by omega)⟩
      rw [shrT_0 c hu]
      have e0 := inT_at0 (K := t.1) (D := t.2) f3 hu
      refine Eq.trans ?_ e0.symm
      rw [List.length_eq_zero_iff.mp c]
      show inT h u = [] ++ (inT h u ++ [])
      simp
    · rw [shrT_1 c]
      rfl
set_option maxHeartbeats 4000000 in
theorem c_cut_23 {B a : Nat} {T : TS E} {I : Mm} {K : Mm → Prop} {fa : Nat} (hB : isX B) (ha : 4 * a + 4 ≤ 4) (hT : TreeC I B T) (hg : good T) (hl : (lsT T).length ≤ 648)
    (hK : ∀ I' : Mm, (∀ c, c ≠ B + 2 → c ≠ B + 5 → c ≠ B + 6 → c ≠ B + 7 → c ≠ B + 8 → c ≠ B + 9 → c ≠ B + 10 → c ≠ B + 11 → I' c = I c) → TreeC I' B (cutT (en4 (rd I (B + 24)) a) T) → K I') : CallV 67 [.inr (2, B, 2), .inr (2, B, 23), .inl (fa, (a : Int))] I K := by
  obtain ⟨h, T2⟩ := T
  obtain ⟨r, hC, hT2, hW⟩ := hT
  have hC0 : TrC I B h r := hC
  simp only at hT2 hC hW
  obtain ⟨t1, t2, t3, t4, t5, t6, t7⟩ := hC
  have hh : h ≤ 5 := ht_good hg (by omega)
  have len2 : (inT h (mkT (nsC I B) h r)).length = (lsT (⟨h, T2⟩ : TS E)).length := by
    show _ = (inT h T2).length
    rw [hT2, inT_map, List.length_map]
  have c2 := trC_c2 hC0
  rw [len2] at c2
  have filN : fil h (rtA h) 4 (mkT (nsC I B) h r) := fil_map (f := ent I B) (by rw [← hT2]; exact hg.1)
  have ndN := trC_nd hC0
  refine callV_fl (as' := [.inr (2, B, 2), .inr (2, B, 23), .inl (1, (a : Int))]) rfl ?_
  refine callV_of rfl (b_cut_23 hB (inRn (by omega)) ?_)
  refine c_find_23 hB ha t1 t2 t5 (trC_num hC0) (by omega) ?_
  intro d x I1 f1 f2 f3 f4 f5 f6 f7
  have wE := wfE t5
  have pE : ∀ s j, pthT (fun m => (kys I B m, tcs I B m)) s r j = pthT (nsC I B) s r j := fun s j => pthT_ns (ns := nsC I B) (ns' := fun m => (kys I B m, tcs I B m)) (fun _ => rfl) s r j
  have pE0 : ∀ s j, pthT (nsC I B) (fun k => s (0 + k)) r j = pthT (nsC I B) s r j := fun s j => pthT_congr j (fun i _ => by rw [Nat.zero_add])
  rcases f7 with ⟨fx, fh⟩ | ⟨fx, fh, fd⟩
  · subst fx
    refine ⟨fun z => absurd z (by omega), fun _ => ?_⟩
    -- where it is
    have hkey := hit_iff.mp fh
    rw [← (f5 d (Nat.le_refl _)).2.2] at hkey
    unfold kys at hkey
    rw [List.getElem?_map] at hkey
    cases hq0 : (tks I B (pthT (nsC I B) (sJ I1 B) r d))[sJ I1 B d]? with
    | none => rw [hq0] at hkey; cases hkey
    | some q0 =>
    rw [hq0] at hkey
    have entq : ent I B q0 = en4 (rd I (B + 24)) a := by simpa using hkey
    have kl := (List.getElem?_eq_some_iff.mp hq0).1
    have hs1 : ∀ j, j ≤ d → sJ I1 B j ≤ (nsC I B (pthT (nsC I B) (sJ I1 B) r j)).1.length := fun j hj => by
      rw [(f5 j hj).2.2]
      have := kc_le (en4 (rd I (B + 24)) a) (kys I B (pthT (nsC I B) (sJ I1 B) r j))
      unfold kys at this
      rw [List.length_map] at this
      exact this
    have pw : ∀ j, j ≤ d → wfT (fun m => m < 348) (nsC I B) (h - j) (pthT (nsC I B) (sJ I1 B) r j) ∧ ∀ m ∈ fpT (nsC I B) (h - j) (pthT (nsC I B) (sJ I1 B) r j), m ∈ fpT (nsC I B) h r := by
      intro j
      induction j with
      | zero => intro _; exact ⟨t5, fun m hm => hm⟩
      | succ j ih =>
        intro hj
        obtain ⟨w, wf⟩ := ih (by omega)
        obtain ⟨g, hg'⟩ : ∃ g, h - j = g + 1 := ⟨h - j - 1, by omega⟩
        rw [hg'] at w wf
        obtain ⟨c, hc, c0, wc, ec⟩ := kid_of w (hs1 j (by omega))
        rw [show h - (j + 1) = g by omega]
        have e1 : pthT (nsC I B) (sJ I1 B) r (j + 1) = c.toNat := ec
        rw [e1]
        exact ⟨wc, fun m hm => wf m (fpT_kid (List.mem_of_getElem? hc) hm)⟩
    obtain ⟨wn, wfn⟩ := pw d (Nat.le_refl _)
    have nin := wfn _ (fpT_self _ _ _)
    have nv : pthT (nsC I B) (sJ I1 B) r d < 348 := wfT_V t5 _ nin
    have szn := t1 _ nv
    rw [tks_len] at kl
    have qin := key_in t5 nin (List.mem_of_getElem? hq0)
    have qb := ran_mem (t7.mem_iff.mp (List.mem_append_left _ qin))
    obtain ⟨q, hq⟩ : ∃ q : Nat, q0 = q := ⟨q0.toNat, by omega⟩
    subst hq
    have lpos : 1 ≤ (lsT (⟨h, T2⟩ : TS E)).length := by rw [← len2]; exact List.length_pos_of_mem qin
    obtain ⟨c, hc⟩ : ∃ c : Nat, rd I (B + 2) 2 = (c : Int) := ⟨(rd I (B + 2) 2).toNat, by omega⟩
    have c648 : c < 648 := by omega
    have hspe : spe I B = seg (rd I (B + 5)) 0 c := by unfold spe; rw [hc, Int.toNat_natCast]
    rw [f3, Int.toNat_natCast, (f5 d (Nat.le_refl _)).1, (f5 d (Nat.le_refl _)).2.1]
    refine ⟨by omega, ?_⟩
    intro v3 ev3 iv3
    subst ev3
    refine ⟨by omega, ?_⟩
    intro v4 ev4 iv4
    subst ev4
    have w5 : wr ((((pthT (nsC I B) (sJ I1 B) r d : Nat) : Int) * 5) + ((sJ I1 B d : Nat) : Int)) = ((5 * pthT (nsC I B) (sJ I1 B) r d + sJ I1 B d : Nat) : Int) := wrn _ (by omega) (by omega)
    rw [w5, Int.toNat_natCast]
    refine ⟨by omega, ?_⟩
    have r12 : rd I1 (B + 2) 2 = c := by rw [f2 2 (by omega), hc]
    have r16 : rd I1 (B + 6) (5 * pthT (nsC I B) (sJ I1 B) r d + sJ I1 B d) = q := by
      rw [rd_of (f1 _ (by omega) (by omega) (by omega))]
      have := tks_get (I := I) (B := B) (n := pthT (nsC I B) (sJ I1 B) r d) (k := sJ I1 B d) (by omega)
      rw [hq0] at this
      exact (Option.some.inj this).symm
    rw [r12, Int.toNat_natCast, r16]
    refine ⟨by omega, ?_⟩
    intro I2 eI2
    have r22 : rd I2 (B + 2) 2 = c := by rw [eI2, rd_wt_a _ _ _ _ (by omega), r12]
    rw [r22]
    intro I3 eI3
    have fr3 : ∀ x, x ≠ B + 2 → x ≠ B + 5 → x ≠ B + 10 → x ≠ B + 11 → I3 x = I x := fun x k2 k5 k10 k11 => by rw [eI3, wt_a _ _ _ _ k2, eI2, wt_a _ _ _ _ k5, f1 x k2 k10 k11]
    have r32 : ∀ k, k ≠ 2 → k ≠ 11 → rd I3 (B + 2) k = rd I (B + 2) k := fun k k2 k11 => by rw [eI3, rd_wt_k _ _ _ _ k2, eI2, rd_wt_a _ _ _ _ (by omega), f2 k k11]
    have r311 : rd I3 (B + 2) 11 = d := by rw [eI3, rd_wt_k _ _ _ _ (by omega), eI2, rd_wt_a _ _ _ _ (by omega), f3]
    have r3c : rd I3 (B + 2) 2 = (c : Int) + 1 := by rw [eI3, rd_wt_s _ _ _ ⟨by omega, by omega⟩]
    have r35 : ∀ k, rd I3 (B + 5) k = if k = c then (q : Int) else rd I (B + 5) k := by
      intro k
      rw [eI3, rd_wt_a _ _ _ _ (by omega), eI2, rd_wt, if_pos rfl, wrn q rfl (by omega)]
      by_cases ck : k = c
      · rw [if_pos ck, if_pos ck]
      · rw [if_neg ck, if_neg ck, rd_of (f1 _ (by omega) (by omega) (by omega))]
    have sp3 : seg (rd I3 (B + 5)) 0 (c + 1) = spe I B ++ [(q : Int)] := by
      rw [seg_succ, hspe, Nat.zero_add, r35, if_pos rfl]
      congr 1
      exact seg_congr (fun k hk => by rw [r35, if_neg (by omega)])
    have n3 : nsC I3 B = nsC I B := nsC_cg (fr3 _ (by omega) (by omega) (by omega) (by omega)) (fr3 _ (by omega) (by omega) (by omega) (by omega)) (fr3 _ (by omega) (by omega) (by omega) (by omega))
    have r10 : ∀ k, rd I3 (B + 10) k = rd I1 (B + 10) k := fun k => by rw [eI3, rd_wt_a _ _ _ _ (by omega), eI2, rd_wt_a _ _ _ _ (by omega)]
    have r11 : ∀ k, rd I3 (B + 11) k = rd I1 (B + 11) k := fun k => by rw [eI3, rd_wt_a _ _ _ _ (by omega), eI2, rd_wt_a _ _ _ _ (by omega)]
    have tail : ∀ (J : Mm) (s : Nat → Nat) (xo : Option Int) (v : Nat), (∀ x, x ≠ B + 2 → x ≠ B + 5 → x ≠ B + 6 → x ≠ B + 10 → x ≠ B + 11 → J x = I x) → (∀ k, k ≠ 2 → k ≠ 11 → rd J (B + 2) k = rd I (B + 2) k) → rd J (B + 2) 2 = (c : Int) + 1 → rd J (B + 2) 11 = h → seg (rd J (B + 5)) 0 (c + 1) = spe I B ++ [(q : Int)] → (∀ m, (nsC J B m).1.length = (nsC I B m).1.length) → mkT (nsC J B) h r = rG s h 0 v (mkT (nsC I B) h r) xo → gP s h 0 v (mkT (nsC I B) h r) (q : Int) xo → (∀ j, j ≤ h → rd J (B + 10) j = pthT (nsC I B) s r j) → (∀ j, j < h → rd J (B + 11) j = s j) → (∀ j, j ≤ h → s j ≤ (nsC I B (pthT (nsC I B) s r j)).1.length) → s h < (nsC I B (pthT (nsC I B) s r h)).1.length →
        fnT (en4 (rd I (B + 24)) a) h T2 = true → r1T (en4 (rd I (B + 24)) a) s h 0 T2 = rG s h 0 v T2 (xo.map (ent I B)) → (∀ j, j ≤ h → s j = dsT (en4 (rd I (B + 24)) a) h T2 j) →
        CallV 74 [.inr (2, B, 2), .inl (1, ((pthT (nsC I B) s r h : Nat) : Int)), .inl (1, ((s h : Nat) : Int))] J (fun I9 => CallV 77 [.inr (2, B, 2)] I9 (fun I10 => ∀ I11, I11 = wt I10 (B + 2) 14 0 → rV K none I11)) := by
      intro J s xo v u1 u2 u3 u4 u5 u6 u7 u8 u9 u10 u11 u12 u13 u14 u15
      have kidJ : ∀ m, (nsC J B m).2 = (nsC I B m).2 := fun m => by
        show tcs J B m = tcs I B m
        unfold tcs
        rw [show rd J (B + 7) = rd I (B + 7) from funext (fun k => rd_of (u1 _ (by omega) (by omega) (by omega) (by omega) (by omega)) k), rd_of (u1 _ (by omega) (by omega) (by omega) (by omega) (by omega))]
      have fpJ := fpT_ns (ns := nsC I B) (ns' := nsC J B) kidJ
      have ptJ := pthT_ns (ns := nsC I B) (ns' := nsC J B) kidJ s r
      have wJ : wfT (fun m => m < 348) (nsC J B) h r := wfT_ns kidJ u6 h r t5
      have hpJ : PthOK (fun m => m < 348) (nsC J B) s h r := ⟨wJ, by rw [fpJ]; exact ndN, fun j hj => by rw [ptJ, u6]; exact u11 j hj⟩
      have hpI : PthOK (fun m => m < 348) (nsC I B) s h r := ⟨t5, ndN, u11⟩
      have leafin : pthT (nsC I B) s r h ∈ fpT (nsC I B) h r := fp_up hpI h (Nat.le_refl _) _ (fpT_self _ _ _)
      have leafv : pthT (nsC I B) s r h < 348 := wfT_V t5 _ leafin
      have szJ : szOK J B := szOK_cg (u1 _ (by omega) (by omega) (by omega) (by omega) (by omega)) t1
      have h4 := fil_nodes (Nat.le_refl 4) filN
      have l4 : (tks I B (pthT (nsC I B) s r h)).length ≤ 4 := h4 _ leafin
      have l12 : s h < (tks I B (pthT (nsC I B) s r h)).length := u12
      rw [tks_len] at l4 l12
      obtain ⟨sz, hsz⟩ : ∃ sz : Nat, rd I (B + 8) (pthT (nsC I B) s r h) = sz := ⟨(rd I (B + 8) (pthT (nsC I B) s r h)).toNat, by have := t1 _ leafv; omega⟩
      rw [hsz, Int.toNat_natCast] at l4 l12
      refine c_takeOut (k := s h) (s := sz) hB leafv (by rw [rd_of (u1 _ (by omega) (by omega) (by omega) (by omega) (by omega)), hsz]) (by omega) l12 szJ ?_
      intro I9 x1 x2 x3 x4 x5
      have hD : InvD (fun m => m < 348) (nsC J B) (nsC I9 B) s h r h [] := by
        refine invD_start hpJ (by rw [ptJ, u6]; exact u12) ?_ (fun m hm cm => ?_)
        · rw [ptJ]
          show (tks I9 B _, tcs I9 B _) = _
          rw [x4, x5]
          rfl
        · rw [ptJ] at cm
          exact nsC_eq x2 hm cm
      have r92 : ∀ k, rd I9 (B + 2) k = rd J (B + 2) k := fun k => rd_of (x1 _ (by omega) (by omega) (by omega)) k
      have sp9 : spn I9 B = spn I B := by
        unfold spn
        rw [r92, u2 7 (by omega) (by omega)]
        exact seg_congr (fun k _ => by rw [rd_of (x1 _ (by omega) (by omega) (by omega)), rd_of (u1 _ (by omega) (by omega) (by omega) (by omega) (by omega))])
      refine c_mend (ns0 := nsC J B) (s := s) hB hpJ (fun m hm => by rw [u6]; rw [fpJ] at hm; exact h4 m hm) (fun m hm hne => by rw [u6]; rw [fpJ] at hm; exact fil_low2 filN m hm hne) (fun z => ?_) (by omega) ?_ hD (by rw [r92, u2 8 (by omega) (by omega), t2]) (by rw [r92, u4]) (fun j hj => by rw [rd_of (x1 _ (by omega) (by omega) (by omega)), u9 j hj, ptJ]) (fun j hj => by rw [rd_of (x1 _ (by omega) (by omega) (by omega)), u10 j hj]) (by rw [r92, u2 7 (by omega) (by omega)]; exact t3) (by rw [sp9]; unfold fpI; rw [fpJ]; exact t6) ?_
      · rw [u6]
        have := (fil_ky filN).1
        have e1 : kyT h (mkT (nsC I B) h r) = (nsC I B r).1 := by cases h <;> rfl
        rw [e1] at this
        unfold rtA at this
        rw [if_neg (by omega)] at this
        exact this
      · intro m hm
        by_cases cm : m = pthT (nsC I B) s r h
        · subst cm; rw [x3]; omega
        · rw [(x2 m hm cm).2.2]; exact szJ m hm
      intro I10 h' r' j1 j2 j3 j4 j5 j6 j7 j8 I11 eI11
      have q6 : ∀ c, c ≠ B + 2 → I11 c = I10 c := fun c k2 => by rw [eI11, wt_a _ _ _ _ k2]
      have nJ : nsC I11 B = nsC I10 B := nsC_cg (q6 _ (by omega)) (q6 _ (by omega)) (q6 _ (by omega))
      have q62 : ∀ k, k ≠ 14 → rd I11 (B + 2) k = rd I10 (B + 2) k := fun k hk => by rw [eI11, rd_wt_k _ _ _ _ hk]
      have fr : ∀ x, x ≠ B + 2 → x ≠ B + 5 → x ≠ B + 6 → x ≠ B + 7 → x ≠ B + 8 → x ≠ B + 9 → x ≠ B + 10 → x ≠ B + 11 → I11 x = I x := fun x k2 k5 k6 k7 k8 k9 k10 k11 => by rw [q6 x k2, j1 x k2 k6 k7 k8 k9, x1 x k6 k7 k8, u1 x k2 k5 k6 k10 k11]
      have eJ : ent I11 B = ent I B := ent_cg (fr _ (by omega) (by omega) (by omega) (by omega) (by omega) (by omega) (by omega) (by omega))
      have spJ : spn I11 B = spn I10 B := by
        unfold spn
        rw [q62 7 (by omega)]
        exact seg_congr (fun k _ => rd_of (q6 _ (by omega)) _)
      have c11 : rd I11 (B + 2) 2 = (c : Int) + 1 := by rw [q62 2 (by omega), j2 2 (by omega) (by omega), r92, u3]
      have speJ : spe I11 B = spe I B ++ [(q : Int)] := by
        rw [← u5]
        unfold spe
        rw [c11, show ((c : Int) + 1).toNat = c + 1 by omega]
        exact seg_congr (fun k _ => by rw [rd_of (q6 _ (by omega)), rd_of (j1 _ (by omega) (by omega) (by omega) (by omega) (by omega)), rd_of (x1 _ (by omega) (by omega) (by omega))])
      have ha1 : 0 < h → 1 ≤ rtA h := fun z => by unfold rtA; rw [if_neg (by omega)]; exact Nat.le_refl _
      obtain ⟨k1, A, Bl, kA, kB⟩ := delG_ok filN ha1 u8
      rw [u7] at j7
      have res : cutT (en4 (rd I (B + 24)) a) ⟨h, T2⟩ = ⟨h', mapT (ent I11 B) h' (mkT (nsC I11 B) h' r')⟩ := by
        unfold cutT
        rw [if_pos u13, eJ, nJ]
        show shrT h (delP (dsT (en4 (rd I (B + 24)) a) h T2) h 0 (r1T (en4 (rd I (B + 24)) a) (dsT (en4 (rd I (B + 24)) a) h T2) h 0 T2)) = mapS (ent I B) ⟨h', mkT (nsC I10 B) h' r'⟩
        rw [j7, ← shrT_map, ← delP_map]
        have e1 : r1T (en4 (rd I (B + 24)) a) (dsT (en4 (rd I (B + 24)) a) h T2) h 0 T2 = r1T (en4 (rd I (B + 24)) a) s h 0 T2 := by
          unfold r1T
          cases gbT (en4 (rd I (B + 24)) a) h T2 with
          | none => rfl
          | some x => exact repP_congr h 0 T2 (fun j hj => by rw [Nat.zero_add]; exact (u15 j hj).symm)
        rw [e1, delP_congr (s := dsT (en4 (rd I (B + 24)) a) h T2) (s' := s) h 0 _ (fun j hj => by rw [Nat.zero_add]; exact (u15 j hj).symm), u14]
        have e2 : rG s h 0 v T2 (xo.map (ent I B)) = mapT (ent I B) h (rG s h 0 v (mkT (nsC I B) h r) xo) := by
          cases xo with
          | none => exact hT2
          | some x =>
            show repP s (0 + v) (ent I B x) h 0 T2 = mapT (ent I B) h (repP s (0 + v) x h 0 (mkT (nsC I B) h r))
            rw [hT2, repP_map]
        rw [e2]
      refine hK I11 fr ?_
      rw [res]
      refine ⟨r', ⟨szOK_cg (q6 _ (by omega)) j3, by rw [q62 8 (by omega)]; exact j4, by rw [q62 7 (by omega)]; exact j5, by rw [c11]; omega, by rw [nJ]; exact j6, by rw [nJ, spJ]; exact j8, ?_⟩, rfl, ?_⟩
      · show (inT h' (mkT (nsC I11 B) h' r') ++ spe I11 B).Perm (ran 648)
        have l1 : inT h' (mkT (nsC I10 B) h' r') = lsT (⟨h', mkT (nsC I10 B) h' r'⟩ : TS Int) := rfl
        rw [nJ, speJ, l1, j7, lsT_shr k1, kB]
        refine List.Perm.trans ?_ t7
        rw [kA, List.append_assoc, List.append_assoc]
        refine List.Perm.append_left _ ?_
        rw [List.cons_append, ← List.append_assoc]
        exact List.perm_append_singleton (q : Int) _
      · intro hw
        exfalso
        apply hw
        show rd I11 (B + 2) 14 = 0
        rw [eI11, rd_wt_s _ _ _ ⟨by omega, by omega⟩]
    obtain ⟨c0, hc0, hc1, hc2⟩ := kids0 wn
    have r0 := (tcs_get hc0).1
    have w6 : wr (((pthT (nsC I B) (sJ I1 B) r d : Nat) : Int) * 6) = ((6 * pthT (nsC I B) (sJ I1 B) r d : Nat) : Int) := wrn _ (by omega) (by omega)
    have r37 : rd I3 (B + 7) (6 * pthT (nsC I B) (sJ I1 B) r d) = c0 := by rw [rd_of (fr3 _ (by omega) (by omega) (by omega) (by omega))]; exact r0
    rw [w6, Int.toNat_natCast, r37]
    refine ⟨by omega, fun z => ?_, fun z => ?_⟩
    · have dh : d = h := by
        by_cases cc : h - d = 0
        · omega
        · have := hc2 cc; omega
      subst dh
      have F := fd0_of wE (fun j hj => by rw [pE]; exact (f5 j hj).2.2) (fun j hj => by rw [pE]; exact f6 j hj) (by rw [pE]; exact fh)
      rw [← mkE, ← hT2] at F
      refine tail I3 (sJ I1 B) none d (fun x k2 k5 _ k10 k11 => fr3 x k2 k5 k10 k11) r32 r3c r311 sp3 (fun m => by rw [n3]) (by rw [n3]; rfl) ?_ (fun j hj => by rw [r10]; exact (f5 j hj).1) (fun j hj => by rw [r11]; exact (f5 j (by omega)).2.1) hs1 (by show _ < (tks I B _).length; rw [tks_len]; exact kl) F.1 ?_ F.2.2.2
      · refine gP_leaf t5 (fun j hj => ?_) ?_
        · rw [pE0, Nat.zero_add]; exact hs1 j (by omega)
        · rw [pE0, Nat.zero_add]; exact hq0
      · unfold r1T
        rw [F.2.2.1]
        rfl
    · have dh : d < h := by
        by_cases cc : h - d = 0
        · exact absurd (hc1 cc) z
        · omega
      refine c_gtgb (h := h) (r := r) (d := d) hB (szOK_cg (fr3 _ (by omega) (by omega) (by omega) (by omega)) t1) (by omega) dh r311 (fun _ => trivial) (by rw [n3]; exact t5) ?_ ?_ ?_
      · intro j hj
        have e1 : sJ I3 B = sJ I1 B := by funext k; unfold sJ; rw [r11]
        rw [n3, r10, r11, e1]
        exact ⟨(f5 j hj).1, (f5 j hj).2.1⟩
      · intro j hj
        have e1 : sJ I3 B = sJ I1 B := by funext k; unfold sJ; rw [r11]
        have e2 : tks I3 B = tks I B := by funext m; exact congrArg Prod.fst (congrFun n3 m)
        rw [n3, e1, e2]
        exact hs1 j hj
      intro I4 hG r411
      obtain ⟨g1, g2, g3, g4, g5⟩ := hG
      rw [n3] at g4 g5
      have e1 : sJ I3 B = sJ I1 B := by funext k; unfold sJ; rw [r11]
      have e2 : tks I3 B = tks I B := by funext m; exact congrArg Prod.fst (congrFun n3 m)
      rw [e1] at g3
      rw [e2] at g5
      have pc : ∀ j, j ≤ d → pthT (nsC I B) (sJ I4 B) r j = pthT (nsC I B) (sJ I1 B) r j := fun j hj => pthT_congr j (fun i hi => g3 i (by omega))
      -- the slots, the last one being that of the greatest
      have ss : ∃ s : Nat → Nat, (∀ j, j < h → s j = sJ I4 B j) ∧ s h = (tks I B (pthT (nsC I B) (sJ I4 B) r h)).length - 1 := ⟨fun j => if j = h then (tks I B (pthT (nsC I B) (sJ I4 B) r h)).length - 1 else sJ I4 B j, fun j hj => if_neg (by omega), if_pos rfl⟩
      obtain ⟨s, sa, sb⟩ := ss
      have ps : ∀ j, j ≤ h → pthT (nsC I B) s r j = pthT (nsC I B) (sJ I4 B) r j := fun j hj => pthT_congr j (fun i hi => sa i (by omega))
      rw [← ps h (Nat.le_refl _)] at sb
      have sd : ∀ j, j ≤ d → s j = sJ I1 B j := fun j hj => by rw [sa j (by omega), g3 j hj]
      have pd : ∀ j, j ≤ d → pthT (nsC I B) s r j = pthT (nsC I B) (sJ I1 B) r j := fun j hj => by rw [ps j (by omega), pc j hj]
      have sg : ∀ j, d < j → j < h → s j = (tks I B (pthT (nsC I B) s r j)).length := fun j h1 h2 => by rw [sa j h2, ps j (by omega)]; exact g5 j h1 (by omega)
      have u11 : ∀ j, j ≤ h → s j ≤ (nsC I B (pthT (nsC I B) s r j)).1.length := by
        intro j hj
        by_cases cj : j ≤ d
        · rw [sd j cj, pd j cj]; exact hs1 j cj
        · by_cases ch : j = h
          · subst ch; rw [sb]; exact Nat.sub_le _ _
          · exact Nat.le_of_eq (sg j (by omega) (by omega))
      have hpI : PthOK (fun m => m < 348) (nsC I B) s h r := ⟨t5, ndN, u11⟩
      have leafin : pthT (nsC I B) s r h ∈ fpT (nsC I B) h r := fp_up hpI h (Nat.le_refl _) _ (fpT_self _ _ _)
      have leafv : pthT (nsC I B) s r h < 348 := wfT_V t5 _ leafin
      have lne : pthT (nsC I B) s r h ≠ r := Ne.symm (pth_off hpI (show 0 < h by omega) (Nat.le_refl _)).1
      have l2 : 2 ≤ (tks I B (pthT (nsC I B) s r h)).length := fil_low2 filN _ leafin lne
      have l4 : (tks I B (pthT (nsC I B) s r h)).length ≤ 4 := fil_nodes (Nat.le_refl 4) filN _ leafin
      have l2' := l2
      have l4' := l4
      rw [tks_len] at l2' l4'
      obtain ⟨sz, hsz⟩ : ∃ sz : Nat, rd I (B + 8) (pthT (nsC I B) s r h) = sz := ⟨(rd I (B + 8) (pthT (nsC I B) s r h)).toNat, by have := t1 _ leafv; omega⟩
      rw [hsz, Int.toNat_natCast] at l2' l4'
      have sh1 : s h = sz - 1 := by rw [sb, tks_len, hsz, Int.toNat_natCast]
      have fr4 : ∀ x, x ≠ B + 2 → x ≠ B + 5 → x ≠ B + 10 → x ≠ B + 11 → I4 x = I x := fun x k2 k5 k10 k11 => by rw [g1 x k2 k10 k11, fr3 x k2 k5 k10 k11]
      have n4 : nsC I4 B = nsC I B := nsC_cg (fr4 _ (by omega) (by omega) (by omega) (by omega)) (fr4 _ (by omega) (by omega) (by omega) (by omega)) (fr4 _ (by omega) (by omega) (by omega) (by omega))
      rw [r411, Int.toNat_natCast, (g4 h (by omega)).1, ← ps h (Nat.le_refl _)]
      refine ⟨by omega, ?_⟩
      intro v5 ev5 iv5
      subst ev5
      refine ⟨by omega, ?_⟩
      intro v6 ev6 iv6
      rw [Int.toNat_natCast, rd_of (fr4 _ (by omega) (by omega) (by omega) (by omega)), hsz, wrn (s h) (by omega) (by omega)] at ev6
      subst ev6
      have w7 : wr ((((pthT (nsC I B) s r h : Nat) : Int) * 5) + ((s h : Nat) : Int)) = ((5 * pthT (nsC I B) s r h + s h : Nat) : Int) := wrn _ (by omega) (by omega)
      rw [w7, Int.toNat_natCast, rd_of (fr4 _ (by omega) (by omega) (by omega) (by omega))]
      refine ⟨by omega, by omega, ?_⟩
      have hx := tks_get (I := I) (B := B) (n := pthT (nsC I B) s r h) (k := s h) (by omega)
      have xlast : (tks I B (pthT (nsC I B) s r h)).getLast? = some (rd I (B + 6) (5 * pthT (nsC I B) s r h + s h)) := by
        rw [List.getLast?_eq_getElem?, ← sb]; exact hx
      have xin := key_in t5 leafin (List.mem_of_getElem? hx)
      have xb := ran_mem (t7.mem_iff.mp (List.mem_append_left _ xin))
      obtain ⟨y, hy⟩ : ∃ y : Nat, rd I (B + 6) (5 * pthT (nsC I B) s r h + s h) = y := ⟨(rd I (B + 6) (5 * pthT (nsC I B) s r h + s h)).toNat, by omega⟩
      rw [hy] at xb hx xlast ⊢
      intro I5 eI5
      have r56 : ∀ k, rd I5 (B + 6) k = if k = 5 * pthT (nsC I B) (sJ I1 B) r d + sJ I1 B d then (y : Int) else rd I (B + 6) k := by
        intro k
        rw [eI5, rd_wt, if_pos rfl, wrn y rfl (by omega)]
        by_cases ck : k = 5 * pthT (nsC I B) (sJ I1 B) r d + sJ I1 B d
        · rw [if_pos ck, if_pos ck]
        · rw [if_neg ck, if_neg ck, rd_of (fr4 _ (by omega) (by omega) (by omega) (by omega))]
      have fr5 : ∀ x, x ≠ B + 6 → I5 x = I4 x := fun x k6 => by rw [eI5, wt_a _ _ _ _ k6]
      have t5k : ∀ m, tks I5 B m = if m = pthT (nsC I B) (sJ I1 B) r d then (tks I B m).set (sJ I1 B d) (y : Int) else tks I B m := by
        intro m
        have sm : rd I5 (B + 8) m = rd I (B + 8) m := by rw [rd_of (fr5 _ (by omega)), rd_of (fr4 _ (by omega) (by omega) (by omega) (by omega))]
        have lm : (tks I5 B m).length = (tks I B m).length := by rw [tks_len, tks_len, sm]
        by_cases cm : m = pthT (nsC I B) (sJ I1 B) r d
        · rw [if_pos cm]
          subst cm
          refine List.ext_getElem? (fun k => ?_)
          by_cases ck : k < (rd I (B + 8) (pthT (nsC I B) (sJ I1 B) r d)).toNat
          · rw [tks_get (by rw [sm]; omega), r56, List.getElem?_set, tks_len]
            by_cases ck2 : k = sJ I1 B d
            · subst ck2
              rw [if_pos rfl, if_pos rfl, if_pos ck]
            · rw [if_neg (by omega), if_neg (Ne.symm ck2), tks_get (by omega)]
          · rw [List.getElem?_eq_none (by rw [tks_len, sm]; omega), List.getElem?_eq_none (by rw [List.length_set, tks_len]; omega)]
        · rw [if_neg cm]
          refine List.ext_getElem? (fun k => ?_)
          by_cases ck : k < (rd I (B + 8) m).toNat
          · by_cases mv : m < 348
            · have s5 := t1 m mv
              rw [tks_get (by rw [sm]; omega), r56, if_neg (by omega), tks_get (by omega)]
            · have e5 : tks I5 B m = seg (rd I5 (B + 6)) (5 * m) (rd I5 (B + 8) m).toNat := rfl
              have e6 : tks I B m = seg (rd I (B + 6)) (5 * m) (rd I (B + 8) m).toNat := rfl
              rw [e5, e6, sm, seg_get _ _ ck, seg_get _ _ ck, r56, if_neg (by omega)]
          · rw [List.getElem?_eq_none (by rw [tks_len, sm]; omega), List.getElem?_eq_none (by rw [tks_len]; omega)]
      have t5c : ∀ m, tcs I5 B m = tcs I B m := by
        intro m
        unfold tcs
        rw [show rd I5 (B + 7) = rd I (B + 7) from funext (fun k => by rw [rd_of (fr5 _ (by omega)), rd_of (fr4 _ (by omega) (by omega) (by omega) (by omega))]), rd_of (fr5 _ (by omega)), rd_of (fr4 _ (by omega) (by omega) (by omega) (by omega))]
      have F := fd1_of (s := s) (d := d) dh wE (fun j hj => by rw [pE, pd j hj, sd j hj]; exact (f5 j hj).2.2) (fun j hj => by rw [pE, pd j (by omega)]; exact f6 j hj) (by rw [pE, pd d (Nat.le_refl _)]; exact fh) (fun j h1 h2 => by rw [pE, sg j h1 h2]; show _ = (kys I B _).length; unfold kys; rw [List.length_map]) (by rw [pE, sb]; show _ = (kys I B _).length - 1; unfold kys; rw [List.length_map])
      rw [← mkE, ← hT2, pE] at F
      refine tail I5 s (some (y : Int)) d (fun x k2 k5 k6 k10 k11 => by rw [fr5 x k6, fr4 x k2 k5 k10 k11]) (fun k k2 k11 => by rw [rd_of (fr5 _ (by omega)), g2 k k11, r32 k k2 k11]) (by rw [rd_of (fr5 _ (by omega)), g2 2 (by omega), r3c]) (by rw [rd_of (fr5 _ (by omega)), r411]) ?_ ?_ ?_ ?_ (fun j hj => by rw [rd_of (fr5 _ (by omega)), (g4 j (by omega)).1, ps j hj]) (fun j hj => by rw [rd_of (fr5 _ (by omega)), (g4 j (by omega)).2, sa j hj]) u11 (by show _ < (tks I B _).length; rw [tks_len, hsz, Int.toNat_natCast]; omega) F.1 ?_ F.2.2.2
      · rw [← sp3]
        exact seg_congr (fun k _ => by rw [rd_of (fr5 _ (by omega)), rd_of (g1 _ (by omega) (by omega) (by omega))])
      · intro m
        show (tks I5 B m).length = (tks I B m).length
        rw [t5k]
        by_cases cm : m = pthT (nsC I B) (sJ I1 B) r d
        · rw [if_pos cm, List.length_set]
        · rw [if_neg cm]
      · have R := mkT_rep (V := fun m => m < 348) (ns0 := nsC I B) (ns1 := nsC I5 B) (s := s) (f := d) (n0 := r) (x := (y : Int)) h 0 h (by omega) (by omega) (Nat.zero_le _) hpI (by
          rw [pd d (Nat.le_refl _), sd d (Nat.le_refl _)]
          show (tks I5 B _, tcs I5 B _) = _
          rw [t5k, if_pos rfl, t5c]
          rfl) (fun m _ cm => by
          rw [pd d (Nat.le_refl _)] at cm
          show (tks I5 B _, tcs I5 B _) = _
          rw [t5k, if_neg cm, t5c]
          rfl)
        show mkT (nsC I5 B) h r = repP s (0 + d) (y : Int) h 0 (mkT (nsC I B) h r)
        rw [Nat.zero_add]
        exact R
      · have G := gP_in (α := Int) (y := (q : Int)) (s := s) (i := 0) (d := d) dh t5 (fun j hj => by rw [pE0, Nat.zero_add]; exact u11 j (by omega)) (by rw [pE0, Nat.zero_add, pd d (Nat.le_refl _), sd d (Nat.le_refl _)]; exact hq0) (fun j h1 h2 => by rw [pE0, Nat.zero_add]; exact sg j h1 h2) (by rw [pE0, Nat.zero_add]; exact sb)
        rw [pE0] at G
        have xl : (nsC I B (pthT (nsC I B) s r h)).1.getLast? = some (y : Int) := xlast
        rw [xl] at G
        exact G
      · unfold r1T
        rw [F.2.2.1]
        show (match (kys I B (pthT (nsC I B) s r h)).getLast? with | some x => repP s (0 + lvT _ h T2) x h 0 T2 | none => T2) = _
        unfold kys
        rw [List.getLast?_map, xlast, F.2.1]
        rfl
  · subst fx
    subst fd
    refine ⟨fun _ => ?_, fun z => absurd rfl z⟩
    have hnf : ∀ j, j ≤ d → hit (en4 (rd I (B + 24)) a) (kys I B (pthT (nsC I B) (sJ I1 B) r j)) = false := by
      intro j hj
      by_cases c : j = d
      · subst c; exact fh
      · exact f6 j (by omega)
    have fnd : fnT (en4 (rd I (B + 24)) a) d T2 = false := by
      rw [hT2, mkE]
      exact nf_of wE (fun j hj => by rw [pE]; exact (f5 j hj).2.2) (fun j hj => by rw [pE]; exact hnf j hj)
    refine hK I1 (fun c k2 _ _ _ _ _ k10 k11 => f1 c k2 k10 k11) ?_
    unfold cutT
    rw [if_neg (by rw [fnd]; decide)]
    have n1 : nsC I1 B = nsC I B := nsC_cg (f1 _ (by omega) (by omega) (by omega)) (f1 _ (by omega) (by omega) (by omega)) (f1 _ (by omega) (by omega) (by omega))
    have e1 : ent I1 B = ent I B := ent_cg (f1 _ (by omega) (by omega) (by omega))
    have sp1 : spn I1 B = spn I B := by
      unfold spn
      rw [f2 7 (by omega)]
      exact seg_congr (fun k _ => rd_of (f1 _ (by omega) (by omega) (by omega)) _)
    have sp2 : spe I1 B = spe I B := by
      unfold spe
      rw [f2 2 (by omega)]
      exact seg_congr (fun k _ => rd_of (f1 _ (by omega) (by omega) (by omega)) _)
    refine ⟨r, ⟨szOK_cg (f1 _ (by omega) (by omega) (by omega)) t1, by rw [f2 8 (by omega)]; exact t2, by rw [f2 7 (by omega)]; exact t3, by rw [f2 2 (by omega)]; exact t4, by rw [n1]; exact t5, by rw [n1, sp1]; exact t6, by rw [n1, sp2]; exact t7⟩, by rw [e1, n1]; exact hT2, ?_⟩
    intro hw
    rw [f2 14 (by omega)] at hw
    rw [n1, f2 15 (by omega)]
    have := hW hw
    refine ⟨this.1, ?_, ?_⟩
    · refine Eq.trans (seg_congr (fun k _ => ?_)) this.2.1
      exact rd_of (f1 _ (by omega) (by omega) (by omega)) _
    · refine Eq.trans (seg_congr (fun k _ => ?_)) this.2.2
      exact rd_of (f1 _ (by omega) (by omega) (by omega)) _
set_option maxHeartbeats 4000000 in
theorem c_cut_16 {B a : Nat} {T : TS E} {I : Mm} {K : Mm → Prop} {fa : Nat} (hB : isX B) (ha : 4 * a + 4 ≤ 1200) (hT : TreeC I B T) (hg : good T) (hl : (lsT T).length ≤ 648)
    (hK : ∀ I' : Mm, (∀ c, c ≠ B + 2 → c ≠ B + 5 → c ≠ B + 6 → c ≠ B + 7 → c ≠ B + 8 → c ≠ B + 9 → c ≠ B + 10 → c ≠ B + 11 → I' c = I c) → TreeC I' B (cutT (en4 (rd I (B + 17)) a) T) → K I') : CallV 67 [.inr (2, B, 2), .inr (2, B, 16), .inl (fa, (a : Int))] I K := by
  obtain ⟨h, T2⟩ := T
  obtain ⟨r, hC, hT2, hW⟩ := hT
  have hC0 : TrC I B h r := hC
  simp only at hT2 hC hW
  obtain ⟨t1, t2, t3, t4, t5, t6, t7⟩ := hC
  have hh : h ≤ 5 := ht_good hg (by omega)
  have len2 : (inT h (mkT (nsC I B) h r)).length = (lsT (⟨h, T2⟩ : TS E)).length := by
    show _ = (inT h T2).length
    rw [hT2, inT_map, List.length_map]
  have c2 := trC_c2 hC0
  rw [len2] at c2
  have filN : fil h (rtA h) 4 (mkT (nsC I B) h r) := fil_map (f := ent I B) (by rw [← hT2]; exact hg.1)
  have ndN := trC_nd hC0
  refine callV_fl (as' := [.inr (2, B, 2), .inr (2, B, 16), .inl (1, (a : Int))]) rfl ?_
  refine callV_of rfl (b_cut_16 hB (inRn (by omega)) ?_)
  refine c_find_16 hB ha t1 t2 t5 (trC_num hC0) (by omega) ?_
  intro d x I1 f1 f2 f3 f4 f5 f6 f7
  have wE := wfE t5
  have pE : ∀ s j, pthT (fun m => (kys I B m, tcs I B m)) s r j = pthT (nsC I B) s r j := fun s j => pthT_ns (ns := nsC I B) (ns' := fun m => (kys I B m, tcs I B m)) (fun _ => rfl) s r j
  have pE0 : ∀ s j, pthT (nsC I B) (fun k => s (0 + k)) r j = pthT (nsC I B) s r j := fun s j => pthT_congr j (fun i _ => by rw [Nat.zero_add])
  rcases f7 with ⟨fx, fh⟩ | ⟨fx, fh, fd⟩
  · subst fx
    refine ⟨fun z => absurd z (by omega), fun _ => ?_⟩
    -- where it is
    have hkey := hit_iff.mp fh
    rw [← (f5 d (Nat.le_refl _)).2.2] at hkey
    unfold kys at hkey
    rw [List.getElem?_map] at hkey
    cases hq0 : (tks I B (pthT (nsC I B) (sJ I1 B) r d))[sJ I1 B d]? with
    | none => rw [hq0] at hkey; cases hkey
    | some q0 =>
    rw [hq0] at hkey
    have entq : ent I B q0 = en4 (rd I (B + 17)) a := by simpa using hkey
    have kl := (List.getElem?_eq_some_iff.mp hq0).1
    have hs1 : ∀ j, j ≤ d → sJ I1 B j ≤ (nsC I B (pthT (nsC I B) (sJ I1 B) r j)).1.length := fun j hj => by
      rw [(f5 j hj).2.2]
      have := kc_le (en4 (rd I (B + 17)) a) (kys I B (pthT (nsC I B) (sJ I1 B) r j))
      unfold kys at this
      rw [List.length_map] at this
      exact this
    have pw : ∀ j, j ≤ d → wfT (fun m => m < 348) (nsC I B) (h - j) (pthT (nsC I B) (sJ I1 B) r j) ∧ ∀ m ∈ fpT (nsC I B) (h - j) (pthT (nsC I B) (sJ I1 B) r j), m ∈ fpT (nsC I B) h r := by
      intro j
      induction j with
      | zero => intro _; exact ⟨t5, fun m hm => hm⟩
      | succ j ih =>
        intro hj
        obtain ⟨w, wf⟩ := ih (by omega)
        obtain ⟨g, hg'⟩ : ∃ g, h - j = g + 1 := ⟨h - j - 1, by omega⟩
        rw [hg'] at w wf
        obtain ⟨c, hc, c0, wc, ec⟩ := kid_of w (hs1 j (by omega))
        rw [show h - (j + 1) = g by omega]
        have e1 : pthT (nsC I B) (sJ I1 B) r (j + 1) = c.toNat := ec
        rw [e1]
        exact ⟨wc, fun m hm => wf m (fpT_kid (List.mem_of_getElem? hc) hm)⟩
    obtain ⟨wn, wfn⟩ := pw d (Nat.le_refl _)
    have nin := wfn _ (fpT_self _ _ _)
    have nv : pthT (nsC I B) (sJ I1 B) r d < 348 := wfT_V t5 _ nin
    have szn := t1 _ nv
    rw [tks_len] at kl
    have qin := key_in t5 nin (List.mem_of_getElem? hq0)
    have qb := ran_mem (t7.mem_iff.mp (List.mem_append_left _ qin))
    obtain ⟨q, hq⟩ : ∃ q : Nat, q0 = q := ⟨q0.toNat, by omega⟩
    subst hq
    have lpos : 1 ≤ (lsT (⟨h, T2⟩ : TS E)).length := by rw [← len2]; exact List.length_pos_of_mem qin
    obtain ⟨c, hc⟩ : ∃ c : Nat, rd I (B + 2) 2 = (c : Int) := ⟨(rd I (B + 2) 2).toNat, by omega⟩
    have c648 : c < 648 := by omega
    have hspe : spe I B = seg (rd I (B + 5)) 0 c := by unfold spe; rw [hc, Int.toNat_natCast]
    rw [f3, Int.toNat_natCast, (f5 d (Nat.le_refl _)).1, (f5 d (Nat.le_refl _)).2.1]
    refine ⟨by omega, ?_⟩
    intro v3 ev3 iv3
    subst ev3
    refine ⟨by omega, ?_⟩
    intro v4 ev4 iv4
    subst ev4
    have w5 : wr ((((pthT (nsC I B) (sJ I1 B) r d : Nat) : Int) * 5) + ((sJ I1 B d : Nat) : Int)) = ((5 * pthT (nsC I B) (sJ I1 B) r d + sJ I1 B d : Nat) : Int) := wrn _ (by omega) (by omega)
    rw [w5, Int.toNat_natCast]
    refine ⟨by omega, ?_⟩
    have r12 : rd I1 (B + 2) 2 = c := by rw [f2 2 (by omega), hc]
    have r16 : rd I1 (B + 6) (5 * pthT (nsC I B) (sJ I1 B) r d + sJ I1 B d) = q := by
      rw [rd_of (f1 _ (by omega) (by omega) (by omega))]
      have := tks_get (I := I) (B := B) (n := pthT (nsC I B) (sJ I1 B) r d) (k := sJ I1 B d) (by omega)
      rw [hq0] at this
      exact (Option.some.inj this).symm
    rw [r12, Int.toNat_natCast, r16]
    refine ⟨by omega, ?_⟩
    intro I2 eI2
    have r22 : rd I2 (B + 2) 2 = c := by rw [eI2, rd_wt_a _ _ _ _ (by omega), r12]
    rw [r22]
    intro I3 eI3
    have fr3 : ∀ x, x ≠ B + 2 → x ≠ B + 5 → x ≠ B + 10 → x ≠ B + 11 → I3 x = I x := fun x k2 k5 k10 k11 => by rw [eI3, wt_a _ _ _ _ k2, eI2, wt_a _ _ _ _ k5, f1 x k2 k10 k11]
    have r32 : ∀ k, k ≠ 2 → k ≠ 11 → rd I3 (B + 2) k = rd I (B + 2) k := fun k k2 k11 => by rw [eI3, rd_wt_k _ _ _ _ k2, eI2, rd_wt_a _ _ _ _ (by omega), f2 k k11]
    have r311 : rd I3 (B + 2) 11 = d := by rw [eI3, rd_wt_k _ _ _ _ (by omega), eI2, rd_wt_a _ _ _ _ (by omega), f3]
    have r3c : rd I3 (B + 2) 2 = (c : Int) + 1 := by rw [eI3, rd_wt_s _ _ _ ⟨by omega, by omega⟩]
    have r35 : ∀ k, rd I3 (B + 5) k = if k = c then (q : Int) else rd I (B + 5) k := by
      intro k
      rw [eI3, rd_wt_a _ _ _ _ (by omega), eI2, rd_wt, if_pos rfl, wrn q rfl (by omega)]
      by_cases ck : k = c
      · rw [if_pos ck, if_pos ck]
      · rw [if_neg ck, if_neg ck, rd_of (f1 _ (by omega) (by omega) (by omega))]
    have sp3 : seg (rd I3 (B + 5)) 0 (c + 1) = spe I B ++ [(q : Int)] := by
      rw [seg_succ, hspe, Nat.zero_add, r35, if_pos rfl]
      congr 1
      exact seg_congr (fun k hk => by rw [r35, if_neg (by omega)])
    have n3 : nsC I3 B = nsC I B := nsC_cg (fr3 _ (by omega) (by omega) (by omega) (by omega)) (fr3 _ (by omega) (by omega) (by omega) (by omega)) (fr3 _ (by omega) (by omega) (by omega) (by omega))
    have r10 : ∀ k, rd I3 (B + 10) k = rd I1 (B + 10) k := fun k => by rw [eI3, rd_wt_a _ _ _ _ (by omega), eI2, rd_wt_a _ _ _ _ (by omega)]
    have r11 : ∀ k, rd I3 (B + 11) k = rd I1 (B + 11) k := fun k => by rw [eI3, rd_wt_a _ _ _ _ (by omega), eI2, rd_wt_a _ _ _ _ (by omega)]
    have tail : ∀ (J : Mm) (s : Nat → Nat) (xo : Option Int) (v : Nat), (∀ x, x ≠ B + 2 → x ≠ B + 5 → x ≠ B + 6 → x ≠ B + 10 → x ≠ B + 11 → J x = I x) → (∀ k, k ≠ 2 → k ≠ 11 → rd J (B + 2) k = rd I (B + 2) k) → rd J (B + 2) 2 = (c : Int) + 1 → rd J (B + 2) 11 = h → seg (rd J (B + 5)) 0 (c + 1) = spe I B ++ [(q : Int)] → (∀ m, (nsC J B m).1.length = (nsC I B m).1.length) → mkT (nsC J B) h r = rG s h 0 v (mkT (nsC I B) h r) xo → gP s h 0 v (mkT (nsC I B) h r) (q : Int) xo → (∀ j, j ≤ h → rd J (B + 10) j = pthT (nsC I B) s r j) → (∀ j, j < h → rd J (B + 11) j = s j) → (∀ j, j ≤ h → s j ≤ (nsC I B (pthT (nsC I B) s r j)).1.length) → s h < (nsC I B (pthT (nsC I B) s r h)).1.length →
        fnT (en4 (rd I (B + 17)) a) h T2 = true → r1T (en4 (rd I (B + 17)) a) s h 0 T2 = rG s h 0 v T2 (xo.map (ent I B)) → (∀ j, j ≤ h → s j = dsT (en4 (rd I (B + 17)) a) h T2 j) →
        CallV 74 [.inr (2, B, 2), .inl (1, ((pthT (nsC I B) s r h : Nat) : Int)), .inl (1, ((s h : Nat) : Int))] J (fun I9 => CallV 77 [.inr (2, B, 2)] I9 (fun I10 => ∀ I11, I11 = wt I10 (B + 2) 14 0 → rV K none I11)) := by
      intro J s xo v u1 u2 u3 u4 u5 u6 u7 u8 u9 u10 u11 u12 u13 u14 u15
      have kidJ : ∀ m, (nsC J B m).2 = (nsC I B m).2 := fun m => by
        show tcs J B m = tcs I B m
        unfold tcs
        rw [show rd J (B + 7) = rd I (B + 7) from funext (fun k => rd_of (u1 _ (by omega) (by omega) (by omega) (by omega) (by omega)) k), rd_of (u1 _ (by omega) (by omega) (by omega) (by omega) (by omega))]
      have fpJ := fpT_ns (ns := nsC I B) (ns' := nsC J B) kidJ
      have ptJ := pthT_ns (ns := nsC I B) (ns' := nsC J B) kidJ s r
      have wJ : wfT (fun m => m < 348) (nsC J B) h r := wfT_ns kidJ u6 h r t5
      have hpJ : PthOK (fun m => m < 348) (nsC J B) s h r := ⟨wJ, by rw [fpJ]; exact ndN, fun j hj => by rw [ptJ, u6]; exact u11 j hj⟩
      have hpI : PthOK (fun m => m < 348) (nsC I B) s h r := ⟨t5, ndN, u11⟩
      have leafin : pthT (nsC I B) s r h ∈ fpT (nsC I B) h r := fp_up hpI h (Nat.le_refl _) _ (fpT_self _ _ _)
      have leafv : pthT (nsC I B) s r h < 348 := wfT_V t5 _ leafin
      have szJ : szOK J B := szOK_cg (u1 _ (by omega) (by omega) (by omega) (by omega) (by omega)) t1
      have h4 := fil_nodes (Nat.le_refl 4) filN
      have l4 : (tks I B (pthT (nsC I B) s r h)).length ≤ 4 := h4 _ leafin
      have l12 : s h < (tks I B (pthT (nsC I B) s r h)).length := u12
      rw [tks_len] at l4 l12
      obtain ⟨sz, hsz⟩ : ∃ sz : Nat, rd I (B + 8) (pthT (nsC I B) s r h) = sz := ⟨(rd I (B + 8) (pthT (nsC I B) s r h)).toNat, by have := t1 _ leafv; omega⟩
      rw [hsz, Int.toNat_natCast] at l4 l12
      refine c_takeOut (k := s h) (s := sz) hB leafv (by rw [rd_of (u1 _ (by omega) (by omega) (by omega) (by omega) (by omega)), hsz]) (by omega) l12 szJ ?_
      intro I9 x1 x2 x3 x4 x5
      have hD : InvD (fun m => m < 348) (nsC J B) (nsC I9 B) s h r h [] := by
        refine invD_start hpJ (by rw [ptJ, u6]; exact u12) ?_ (fun m hm cm => ?_)
        · rw [ptJ]
          show (tks I9 B _, tcs I9 B _) = _
          rw [x4, x5]
          rfl
        · rw [ptJ] at cm
          exact nsC_eq x2 hm cm
      have r92 : ∀ k, rd I9 (B + 2) k = rd J (B + 2) k := fun k => rd_of (x1 _ (by omega) (by omega) (by omega)) k
      have sp9 : spn I9 B = spn I B := by
        unfold spn
        rw [r92, u2 7 (by omega) (by omega)]
        exact seg_congr (fun k _ => by rw [rd_of (x1 _ (by omega) (by omega) (by omega)), rd_of (u1 _ (by omega) (by omega) (by omega) (by omega) (by omega))])
      refine c_mend (ns0 := nsC J B) (s := s) hB hpJ (fun m hm => by rw [u6]; rw [fpJ] at hm; exact h4 m hm) (fun m hm hne => by rw [u6]; rw [fpJ] at hm; exact fil_low2 filN m hm hne) (fun z => ?_) (by omega) ?_ hD (by rw [r92, u2 8 (by omega) (by omega), t2]) (by rw [r92, u4]) (fun j hj => by rw [rd_of (x1 _ (by omega) (by omega) (by omega)), u9 j hj, ptJ]) (fun j hj => by rw [rd_of (x1 _ (by omega) (by omega) (by omega)), u10 j hj]) (by rw [r92, u2 7 (by omega) (by omega)]; exact t3) (by rw [sp9]; unfold fpI; rw [fpJ]; exact t6) ?_
      · rw [u6]
        have := (fil_ky filN).1
        have e1 : kyT h (mkT (nsC I B) h r) = (nsC I B r).1 := by cases h <;> rfl
        rw [e1] at this
        unfold rtA at this
        rw [if_neg (by omega)] at this
        exact this
      · intro m hm
        by_cases cm : m = pthT (nsC I B) s r h
        · subst cm; rw [x3]; omega
        · rw [(x2 m hm cm).2.2]; exact szJ m hm
      intro I10 h' r' j1 j2 j3 j4 j5 j6 j7 j8 I11 eI11
      have q6 : ∀ c, c ≠ B + 2 → I11 c = I10 c := fun c k2 => by rw [eI11, wt_a _ _ _ _ k2]
      have nJ : nsC I11 B = nsC I10 B := nsC_cg (q6 _ (by omega)) (q6 _ (by omega)) (q6 _ (by omega))
      have q62 : ∀ k, k ≠ 14 → rd I11 (B + 2) k = rd I10 (B + 2) k := fun k hk => by rw [eI11, rd_wt_k _ _ _ _ hk]
      have fr : ∀ x, x ≠ B + 2 → x ≠ B + 5 → x ≠ B + 6 → x ≠ B + 7 → x ≠ B + 8 → x ≠ B + 9 → x ≠ B + 10 → x ≠ B + 11 → I11 x = I x := fun x k2 k5 k6 k7 k8 k9 k10 k11 => by rw [q6 x k2, j1 x k2 k6 k7 k8 k9, x1 x k6 k7 k8, u1 x k2 k5 k6 k10 k11]
      have eJ : ent I11 B = ent I B := ent_cg (fr _ (by omega) (by omega) (by omega) (by omega) (by omega) (by omega) (by omega) (by omega))
      have spJ : spn I11 B = spn I10 B := by
        unfold spn
        rw [q62 7 (by omega)]
        exact seg_congr (fun k _ => rd_of (q6 _ (by omega)) _)
      have c11 : rd I11 (B + 2) 2 = (c : Int) + 1 := by rw [q62 2 (by omega), j2 2 (by omega) (by omega), r92, u3]
      have speJ : spe I11 B = spe I B ++ [(q : Int)] := by
        rw [← u5]
        unfold spe
        rw [c11, show ((c : Int) + 1).toNat = c + 1 by omega]
        exact seg_congr (fun k _ => by rw [rd_of (q6 _ (by omega)), rd_of (j1 _ (by omega) (by omega) (by omega) (by omega) (by omega)), rd_of (x1 _ (by omega) (by omega) (by omega))])
      have ha1 : 0 < h → 1 ≤ rtA h := fun z => by unfold rtA; rw [if_neg (by omega)]; exact Nat.le_refl _
      obtain ⟨k1, A, Bl, kA, kB⟩ := delG_ok filN ha1 u8
      rw [u7] at j7
      have res : cutT (en4 (rd I (B + 17)) a) ⟨h, T2⟩ = ⟨h', mapT (ent I11 B) h' (mkT (nsC I11 B) h' r')⟩ := by
        unfold cutT
        rw [if_pos u13, eJ, nJ]
        show shrT h (delP (dsT (en4 (rd I (B + 17)) a) h T2) h 0 (r1T (en4 (rd I (B + 17)) a) (dsT (en4 (rd I (B + 17)) a) h T2) h 0 T2)) = mapS (ent I B) ⟨h', mkT (nsC I10 B) h' r'⟩
        rw [j7, ← shrT_map, ← delP_map]
        have e1 : r1T (en4 (rd I (B + 17)) a) (dsT (en4 (rd I (B + 17)) a) h T2) h 0 T2 = r1T (en4 (rd I (B + 17)) a) s h 0 T2 := by
          unfold r1T
          cases gbT (en4 (rd I (B + 17)) a) h T2 with
          | none => rfl
          | some x => exact repP_congr h 0 T2 (fun j hj => by rw [Nat.zero_add]; exact (u15 j hj).symm)
        rw [e1, delP_congr (s := dsT (en4 (rd I (B + 17)) a) h T2) (s' := s) h 0 _ (fun j hj => by rw [Nat.zero_add]; exact (u15 j hj).symm), u14]
        have e2 : rG s h 0 v T2 (xo.map (ent I B)) = mapT (ent I B) h (rG s h 0 v (mkT (nsC I B) h r) xo) := by
          cases xo with
          | none => exact hT2
          | some x =>
            show repP s (0 + v) (ent I B x) h 0 T2 = mapT (ent I B) h (repP s (0 + v) x h 0 (mkT (nsC I B) h r))
            rw [hT2, repP_map]
        rw [e2]
      refine hK I11 fr ?_
      rw [res]
      refine ⟨r', ⟨szOK_cg (q6 _ (by omega)) j3, by rw [q62 8 (by omega)]; exact j4, by rw [q62 7 (by omega)]; exact j5, by rw [c11]; omega, by rw [nJ]; exact j6, by rw [nJ, spJ]; exact j8, ?_⟩, rfl, ?_⟩
      · show (inT h' (mkT (nsC I11 B) h' r') ++ spe I11 B).Perm (ran 648)
        have l1 : inT h' (mkT (nsC I10 B) h' r') = lsT (⟨h', mkT (nsC I10 B) h' r'⟩ : TS Int) := rfl
        rw [nJ, speJ, l1, j7, lsT_shr k1, kB]
        refine List.Perm.trans ?_ t7
        rw [kA, List.append_assoc, List.append_assoc]
        refine List.Perm.append_left _ ?_
        rw [List.cons_append, ← List.append_assoc]
        exact List.perm_append_singleton (q : Int) _
      · intro hw
        exfalso
        apply hw
        show rd I11 (B + 2) 14 = 0
        rw [eI11, rd_wt_s _ _ _ ⟨by omega, by omega⟩]
    obtain ⟨c0, hc0, hc1, hc2⟩ := kids0 wn
    have r0 := (tcs_get hc0).1
    have w6 : wr (((pthT (nsC I B) (sJ I1 B) r d : Nat) : Int) * 6) = ((6 * pthT (nsC I B) (sJ I1 B) r d : Nat) : Int) := wrn _ (by omega) (by omega)
    have r37 : rd I3 (B + 7) (6 * pthT (nsC I B) (sJ I1 B) r d) = c0 := by rw [rd_of (fr3 _ (by omega) (by omega) (by omega) (by omega))]; exact r0
    rw [w6, Int.toNat_natCast, r37]
    refine ⟨by omega, fun z => ?_, fun z => ?_⟩
    · have dh : d = h := by
        by_cases cc : h - d = 0
        · omega
        · have := hc2 cc; omega
      subst dh
      have F := fd0_of wE (fun j hj => by rw [pE]; exact (f5 j hj).2.2) (fun j hj => by rw [pE]; exact f6 j hj) (by rw [pE]; exact fh)
      rw [← mkE, ← hT2] at F
      refine tail I3 (sJ I1 B) none d (fun x k2 k5 _ k10 k11 => fr3 x k2 k5 k10 k11) r32 r3c r311 sp3 (fun m => by rw [n3]) (by rw [n3]; rfl) ?_ (fun j hj => by rw [r10]; exact (f5 j hj).1) (fun j hj => by rw [r11]; exact (f5 j (by omega)).2.1) hs1 (by show _ < (tks I B _).length; rw [tks_len]; exact kl) F.1 ?_ F.2.2.2
      · refine gP_leaf t5 (fun j hj => ?_) ?_
        · rw [pE0, Nat.zero_add]; exact hs1 j (by omega)
        · rw [pE0, Nat.zero_add]; exact hq0
      · unfold r1T
        rw [F.2.2.1]
        rfl
    · have dh : d < h := by
        by_cases cc : h - d = 0
        · exact absurd (hc1 cc) z
        · omega
      refine c_gtgb (h := h) (r := r) (d := d) hB (szOK_cg (fr3 _ (by omega) (by omega) (by omega) (by omega)) t1) (by omega) dh r311 (fun _ => trivial) (by rw [n3]; exact t5) ?_ ?_ ?_
      · intro j hj
        have e1 : sJ I3 B = sJ I1 B := by funext k; unfold sJ; rw [r11]
        rw [n3, r10, r11, e1]
        exact ⟨(f5 j hj).1, (f5 j hj).2.1⟩
      · intro j hj
        have e1 : sJ I3 B = sJ I1 B := by funext k; unfold sJ; rw [r11]
        have e2 : tks I3 B = tks I B := by funext m; exact congrArg Prod.fst (congrFun n3 m)
        rw [n3, e1, e2]
        exact hs1 j hj
      intro I4 hG r411
      obtain ⟨g1, g2, g3, g4, g5⟩ := hG
      rw [n3] at g4 g5
      have e1 : sJ I3 B = sJ I1 B := by funext k; unfold sJ; rw [r11]
      have e2 : tks I3 B = tks I B := by funext m; exact congrArg Prod.fst (congrFun n3 m)
      rw [e1] at g3
      rw [e2] at g5
      have pc : ∀ j, j ≤ d → pthT (nsC I B) (sJ I4 B) r j = pthT (nsC I B) (sJ I1 B) r j := fun j hj => pthT_congr j (fun i hi => g3 i (by omega))
      -- the slots, the last one being that of the greatest
      have ss : ∃ s : Nat → Nat, (∀ j, j < h → s j = sJ I4 B j) ∧ s h = (tks I B (pthT (nsC I B) (sJ I4 B) r h)).length - 1 := ⟨fun j => if j = h then (tks I B (pthT (nsC I B) (sJ I4 B) r h)).length - 1 else sJ I4 B j, fun j hj => if_neg (by omega), if_pos rfl⟩
      obtain ⟨s, sa, sb⟩ := ss
      have ps : ∀ j, j ≤ h → pthT (nsC I B) s r j = pthT (nsC I B) (sJ I4 B) r j := fun j hj => pthT_congr j (fun i hi => sa i (by omega))
      rw [← ps h (Nat.le_refl _)] at sb
      have sd : ∀ j, j ≤ d → s j = sJ I1 B j := fun j hj => by rw [sa j (by omega), g3 j hj]
      have pd : ∀ j, j ≤ d → pthT (nsC I B) s r j = pthT (nsC I B) (sJ I1 B) r j := fun j hj => by rw [ps j (by omega), pc j hj]
      have sg : ∀ j, d < j → j < h → s j = (tks I B (pthT (nsC I B) s r j)).length := fun j h1 h2 => by rw [sa j h2, ps j (by omega)]; exact g5 j h1 (by omega)
      have u11 : ∀ j, j ≤ h → s j ≤ (nsC I B (pthT (nsC I B) s r j)).1.length := by
        intro j hj
        by_cases cj : j ≤ d
        · rw [sd j cj, pd j cj]; exact hs1 j cj
        · by_cases ch : j = h
          · subst ch; rw [sb]; exact Nat.sub_le _ _
          · exact Nat.le_of_eq (sg j (by omega) (by omega))
      have hpI : PthOK (fun m => m < 348) (nsC I B) s h r := ⟨t5, ndN, u11⟩
      have leafin : pthT (nsC I B) s r h ∈ fpT (nsC I B) h r := fp_up hpI h (Nat.le_refl _) _ (fpT_self _ _ _)
      have leafv : pthT (nsC I B) s r h < 348 := wfT_V t5 _ leafin
      have lne : pthT (nsC I B) s r h ≠ r := Ne.symm (pth_off hpI (show 0 < h by omega) (Nat.le_refl _)).1
      have l2 : 2 ≤ (tks I B (pthT (nsC I B) s r h)).length := fil_low2 filN _ leafin lne
      have l4 : (tks I B (pthT (nsC I B) s r h)).length ≤ 4 := fil_nodes (Nat.le_refl 4) filN _ leafin
      have l2' := l2
      have l4' := l4
      rw [tks_len] at l2' l4'
      obtain ⟨sz, hsz⟩ : ∃ sz : Nat, rd I (B + 8) (pthT (nsC I B) s r h) = sz := ⟨(rd I (B + 8) (pthT (nsC I B) s r h)).toNat, by have := t1 _ leafv; omega⟩
      rw [hsz, Int.toNat_natCast] at l2' l4'
      have sh1 : s h = sz - 1 := by rw [sb, tks_len, hsz, Int.toNat_natCast]
      have fr4 : ∀ x, x ≠ B + 2 → x ≠ B + 5 → x ≠ B + 10 → x ≠ B + 11 → I4 x = I x := fun x k2 k5 k10 k11 => by rw [g1 x k2 k10 k11, fr3 x k2 k5 k10 k11]
      have n4 : nsC I4 B = nsC I B := nsC_cg (fr4 _ (by omega) (by omega) (by omega) (by omega)) (fr4 _ (by omega) (by omega) (by omega) (by omega)) (fr4 _ (by omega) (by omega) (by omega) (by omega))
      rw [r411, Int.toNat_natCast, (g4 h (by omega)).1, ← ps h (Nat.le_refl _)]
      refine ⟨by omega, ?_⟩
      intro v5 ev5 iv5
      subst ev5
      refine ⟨by omega, ?_⟩
      intro v6 ev6 iv6
      rw [Int.toNat_natCast, rd_of (fr4 _ (by omega) (by omega) (by omega) (by omega)), hsz, wrn (s h) (by omega) (by omega)] at ev6
      subst ev6
      have w7 : wr ((((pthT (nsC I B) s r h : Nat) : Int) * 5) + ((s h : Nat) : Int)) = ((5 * pthT (nsC I B) s r h + s h : Nat) : Int) := wrn _ (by omega) (by omega)
      rw [w7, Int.toNat_natCast, rd_of (fr4 _ (by omega) (by omega) (by omega) (by omega))]
      refine ⟨by omega, by omega, ?_⟩
      have hx := tks_get (I := I) (B := B) (n := pthT (nsC I B) s r h) (k := s h) (by omega)
      have xlast : (tks I B (pthT (nsC I B) s r h)).getLast? = some (rd I (B + 6) (5 * pthT (nsC I B) s r h + s h)) := by
        rw [List.getLast?_eq_getElem?, ← sb]; exact hx
      have xin := key_in t5 leafin (List.mem_of_getElem? hx)
      have xb := ran_mem (t7.mem_iff.mp (List.mem_append_left _ xin))
      obtain ⟨y, hy⟩ : ∃ y : Nat, rd I (B + 6) (5 * pthT (nsC I B) s r h + s h) = y := ⟨(rd I (B + 6) (5 * pthT (nsC I B) s r h + s h)).toNat, by omega⟩
      rw [hy] at xb hx xlast ⊢
      intro I5 eI5
      have r56 : ∀ k, rd I5 (B + 6) k = if k = 5 * pthT (nsC I B) (sJ I1 B) r d + sJ I1 B d then (y : Int) else rd I (B + 6) k := by
        intro k
        rw [eI5, rd_wt, if_pos rfl, wrn y rfl (by omega)]
        by_cases ck : k = 5 * pthT (nsC I B) (sJ I1 B) r d + sJ I1 B d
        · rw [if_pos ck, if_pos ck]
        · rw [if_neg ck, if_neg ck, rd_of (fr4 _ (by omega) (by omega) (by omega) (by omega))]
      have fr5 : ∀ x, x ≠ B + 6 → I5 x = I4 x := fun x k6 => by rw [eI5, wt_a _ _ _ _ k6]
      have t5k : ∀ m, tks I5 B m = if m = pthT (nsC I B) (sJ I1 B) r d then (tks I B m).set (sJ I1 B d) (y : Int) else tks I B m := by
        intro m
        have sm : rd I5 (B + 8) m = rd I (B + 8) m := by rw [rd_of (fr5 _ (by omega)), rd_of (fr4 _ (by omega) (by omega) (by omega) (by omega))]
        have lm : (tks I5 B m).length = (tks I B m).length := by rw [tks_len, tks_len, sm]
        by_cases cm : m = pthT (nsC I B) (sJ I1 B) r d
        · rw [if_pos cm]
          subst cm
          refine List.ext_getElem? (fun k => ?_)
          by_cases ck : k < (rd I (B + 8) (pthT (nsC I B) (sJ I1 B) r d)).toNat
          · rw [tks_get (by rw [sm]; omega), r56, List.getElem?_set, tks_len]
            by_cases ck2 : k = sJ I1 B d
            · subst ck2
              rw [if_pos rfl, if_pos rfl, if_pos ck]
            · rw [if_neg (by omega), if_neg (Ne.symm ck2), tks_get (by omega)]
          · rw [List.getElem?_eq_none (by rw [tks_len, sm]; omega), List.getElem?_eq_none (by rw [List.length_set, tks_len]; omega)]
        · rw [if_neg cm]
          refine List.ext_getElem? (fun k => ?_)
          by_cases ck : k < (rd I (B + 8) m).toNat
          · by_cases mv : m < 348
            · have s5 := t1 m mv
              rw [tks_get (by rw [sm]; omega), r56, if_neg (by omega), tks_get (by omega)]
            · have e5 : tks I5 B m = seg (rd I5 (B + 6)) (5 * m) (rd I5 (B + 8) m).toNat := rfl
              have e6 : tks I B m = seg (rd I (B + 6)) (5 * m) (rd I (B + 8) m).toNat := rfl
              rw [e5, e6, sm, seg_get _ _ ck, seg_get _ _ ck, r56, if_neg (by omega)]
          · rw [List.getElem?_eq_none (by rw [tks_len, sm]; omega), List.getElem?_eq_none (by rw [tks_len]; omega)]
      have t5c : ∀ m, tcs I5 B m = tcs I B m := by
        intro m
        unfold tcs
        rw [show rd I5 (B + 7) = rd I (B + 7) from funext (fun k => by rw [rd_of (fr5 _ (by omega)), rd_of (fr4 _ (by omega) (by omega) (by omega) (by omega))]), rd_of (fr5 _ (by omega)), rd_of (fr4 _ (by omega) (by omega) (by omega) (by omega))]
      have F := fd1_of (s := s) (d := d) dh wE (fun j hj => by rw [pE, pd j hj, sd j hj]; exact (f5 j hj).2.2) (fun j hj => by rw [pE, pd j (by omega)]; exact f6 j hj) (by rw [pE, pd d (Nat.le_refl _)]; exact fh) (fun j h1 h2 => by rw [pE, sg j h1 h2]; show _ = (kys I B _).length; unfold kys; rw [List.length_map]) (by rw [pE, sb]; show _ = (kys I B _).length - 1; unfold kys; rw [List.length_map])
      rw [← mkE, ← hT2, pE] at F
      refine tail I5 s (some (y : Int)) d (fun x k2 k5 k6 k10 k11 => by rw [fr5 x k6, fr4 x k2 k5 k10 k11]) (fun k k2 k11 => by rw [rd_of (fr5 _ (by omega)), g2 k k11, r32 k k2 k11]) (by rw [rd_of (fr5 _ (by omega)), g2 2 (by omega), r3c]) (by rw [rd_of (fr5 _ (by omega)), r411]) ?_ ?_ ?_ ?_ (fun j hj => by rw [rd_of (fr5 _ (by omega)), (g4 j (by omega)).1, ps j hj]) (fun j hj => by rw [rd_of (fr5 _ (by omega)), (g4 j (by omega)).2, sa j hj]) u11 (by show _ < (tks I B _).length; rw [tks_len, hsz, Int.toNat_natCast]; omega) F.1 ?_ F.2.2.2
      · rw [← sp3]
        exact seg_congr (fun k _ => by rw [rd_of (fr5 _ (by omega)), rd_of (g1 _ (by omega) (by omega) (by omega))])
      · intro m
        show (tks I5 B m).length = (tks I B m).length
        rw [t5k]
        by_cases cm : m = pthT (nsC I B) (sJ I1 B) r d
        · rw [if_pos cm, List.length_set]
        · rw [if_neg cm]
      · have R := mkT_rep (V := fun m => m < 348) (ns0 := nsC I B) (ns1 := nsC I5 B) (s := s) (f := d) (n0 := r) (x := (y : Int)) h 0 h (by omega) (by omega) (Nat.zero_le _) hpI (by
          rw [pd d (Nat.le_refl _), sd d (Nat.le_refl _)]
          show (tks I5 B _, tcs I5 B _) = _
          rw [t5k, if_pos rfl, t5c]
          rfl) (fun m _ cm => by
          rw [pd d (Nat.le_refl _)] at cm
          show (tks I5 B _, tcs I5 B _) = _
          rw [t5k, if_neg cm, t5c]
          rfl)
        show mkT (nsC I5 B) h r = repP s (0 + d) (y : Int) h 0 (mkT (nsC I B) h r)
        rw [Nat.zero_add]
        exact R
      · have G := gP_in (α := Int) (y := (q : Int)) (s := s) (i := 0) (d := d) dh t5 (fun j hj => by rw [pE0, Nat.zero_add]; exact u11 j (by omega)) (by rw [pE0, Nat.zero_add, pd d (Nat.le_refl _), sd d (Nat.le_refl _)]; exact hq0) (fun j h1 h2 => by rw [pE0, Nat.zero_add]; exact sg j h1 h2) (by rw [pE0, Nat.zero_add]; exact sb)
        rw [pE0] at G
        have xl : (nsC I B (pthT (nsC I B) s r h)).1.getLast? = some (y : Int) := xlast
        rw [xl] at G
        exact G
      · unfold r1T
        rw [F.2.2.1]
        show (match (kys I B (pthT (nsC I B) s r h)).getLast? with | some x => repP s (0 + lvT _ h T2) x h 0 T2 | none => T2) = _
        unfold kys
        rw [List.getLast?_map, xlast, F.2.1]
        rfl
  · subst fx
    subst fd
    refine ⟨fun _ => ?_, fun z => absurd rfl z⟩
    have hnf : ∀ j, j ≤ d → hit (en4 (rd I (B + 17)) a) (kys I B (pthT (nsC I B) (sJ I1 B) r j)) = false := by
      intro j hj
      by_cases c : j = d
      · subst c; exact fh
      · exact f6 j (by omega)
    have fnd : fnT (en4 (rd I (B + 17)) a) d T2 = false := by
      rw [hT2, mkE]
      exact nf_of wE (fun j hj => by rw [pE]; exact (f5 j hj).2.2) (fun j hj => by rw [pE]; exact hnf j hj)
    refine hK I1 (fun c k2 _ _ _ _ _ k10 k11 => f1 c k2 k10 k11) ?_
    unfold cutT
    rw [if_neg (by rw [fnd]; decide)]
    have n1 : nsC I1 B = nsC I B := nsC_cg (f1 _ (by omega) (by omega) (by omega)) (f1 _ (by omega) (by omega) (by omega)) (f1 _ (by omega) (by omega) (by omega))
    have e1 : ent I1 B = ent I B := ent_cg (f1 _ (by omega) (by omega) (by omega))
    have sp1 : spn I1 B = spn I B := by
      unfold spn
      rw [f2 7 (by omega)]
      exact seg_congr (fun k _ => rd_of (f1 _ (by omega) (by omega) (by omega)) _)
    have sp2 : spe I1 B = spe I B := by
      unfold spe
      rw [f2 2 (by omega)]
      exact seg_congr (fun k _ => rd_of (f1 _ (by omega) (by omega) (by omega)) _)
    refine ⟨r, ⟨szOK_cg (f1 _ (by omega) (by omega) (by omega)) t1, by rw [f2 8 (by omega)]; exact t2, by rw [f2 7 (by omega)]; exact t3, by rw [f2 2 (by omega)]; exact t4, by rw [n1]; exact t5, by rw [n1, sp1]; exact t6, by rw [n1, sp2]; exact t7⟩, by rw [e1, n1]; exact hT2, ?_⟩
    intro hw
    rw [f2 14 (by omega)] at hw
    rw [n1, f2 15 (by omega)]
    have := hW hw
    refine ⟨this.1, ?_, ?_⟩
    · refine Eq.trans (seg_congr (fun k _ => ?_)) this.2.1
      exact rd_of (f1 _ (by omega) (by omega) (by omega)) _
    · refine Eq.trans (seg_congr (fun k _ => ?_)) this.2.2
      exact rd_of (f1 _ (by omega) (by omega) (by omega)) _
