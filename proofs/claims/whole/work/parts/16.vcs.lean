def arv (v : AR) : Option Value := match v with
  | none => none
  | some (.inl x) => some (.int (Int32.ofInt x.2))
  | some (.inr q) => some (.ref (adr q))
def okR (v : AR) : Prop := match v with
  | none => True
  | some (.inl x) => okF (.inl x)
  | some (.inr q) => okF (.inr q)
def GoA (f pc : Nat) (ls : AL) (st : List AV) (I : Mm) (rt : AR → Mm → Prop) : Prop := GoI f pc (avL ls) (st.map av) I (fun r I' => ∃ v : AR, r = arv v ∧ okR v ∧ rt v I')
theorem vi_in {x : NV} (h : okF (.inl x)) : inR (vi x) := by rw [vi_wr h]; exact wr_in _
theorem of_vi {x : NV} (h : okF (.inl x)) : Int32.ofInt (vi x) = Int32.ofInt x.2 := by rw [vi_wr h, of_wr]
def AV.av' (as : List AV) : List Value := as.map av
theorem sv_virt {f : Nat} {mm : MT} {pc n a b : Nat} {v : Int32} {ls : AL} {st : List AV} {I : Mm} {P : Option Value → Mm → Prop} {kn : Nat → AL → List AV → Mm → Prop} {cz : Nat → List AV → Mm → (NV → Mm → Prop) → Prop} {cv : Nat → List AV → Mm → (Mm → Prop) → Prop} {cr : Nat → List AV → Mm → (RF → Mm → Prop) → Prop} {rt : AR → Mm → Prop} (hm : mT f = some mm) (hls : okFL ls) (hst : okFS st) (hkn : ∀ pc ls st I, okFL ls → okFS st → kn pc ls st I → GoI f pc (avL ls) (st.map av) I P) {z : Nat} (hcz : ∀ (g : Nat) (as : List AV) (I : Mm) (K : NV → Mm → Prop), cz g as I K → okFS as → CallN g as I K) (hcv : ∀ (g : Nat) (as : List AV) (I : Mm) (K : Mm → Prop), cv g as I K → okFS as → CallV g as I K) (hcr : ∀ (g : Nat) (as : List AV) (I : Mm) (K : RF → Mm → Prop), cr g as I K → okFS as → CallR g as I K) (hl : lkE (cd f) pc = some (pc, .invokevirtual z, n, v, a, b)) (h : vst mm (pc, .invokevirtual z, n, v, a, b) ls st I kn cz cv cr rt) : GoI f pc (avL ls) (st.map av) I P := by
  simp only [vst] at h
  split at h
  · rename_i g hg
    split at h
    · rename_i rr rest hdr
      split at h
      · rename_i hc
        have hsp : st = st.take (g.2.2.2.2.2.1 - 1) ++ .inr rr :: rest := by rw [← hdr, List.take_append_drop]
        have hokr : okFS rest := fun w hw => hst w (by rw [hsp]; exact List.mem_append_right _ (List.mem_cons_of_mem _ hw))
        have hv : okF (.inr rr) := hst _ (by rw [hsp]; exact List.mem_append_right _ List.mem_cons_self)
        have hokk : okFS (st.take (g.2.2.2.2.2.1 - 1)) := fun w hw => hst w (List.mem_of_mem_take hw)
        have hokt : okFS (.inr rr :: (st.take (g.2.2.2.2.2.1 - 1)).reverse) := okFS_cons hv (fun w hw => hokk w (List.mem_reverse.mp hw))
        have e1 : (st.map av).drop (g.2.2.2.2.2.1 - 1) = .ref (adr rr) :: rest.map av := by rw [← List.map_drop, hdr]; rfl
        have key : ∀ (N M : Nat) (G : Gm) (w : Option Value) (I0 : Mm) (n9 : Nat), Shp N G → run n9 none a 0 (entL g ((AV.av' (.inr rr :: (st.take (g.2.2.2.2.2.1 - 1)).reverse)))) [] (N, M, G, I) = some (w, (N, M, G, I0)) → stp none (clR n9) (run n9 none f) mm (pc, .invokevirtual z, n, v, a, b) (avL ls) (st.map av) (N, M, G, I) = run n9 none f (pc + n) (avL ls) (w.toList ++ rest.map av) (N, M, G, I0) := by
          intro N M G w I0 n9 hS h1
          have e2 : clR n9 a (.ref (adr rr) :: ((st.map av).take (g.2.2.2.2.2.1 - 1)).reverse) (N, M, G, I) = some (w, (N, M, G, I0)) := by
            unfold clR
            rw [hg]
            unfold AV.av' at h1
            rw [List.map_cons, List.map_reverse, List.map_take] at h1
            exact h1
          simp only [stp, hg, e1, e2]
          rw [if_pos ⟨by simpa using hc.1, shC hS hv hc.2, by rw [← List.map_take]; exact (okv_of hS hokk).2, okl_of hS hls, (okv_of hS hokr).1⟩]
        split at h
        · obtain ⟨mg, hmg, K⟩ := hcv _ _ _ _ h hokt
          rw [hg] at hmg
          cases hmg
          refine GoI.of_stp hm hl ?_
          intro N M G hS
          obtain ⟨n0, r0, I0, h1, rfl, hk2⟩ := K N M G hS
          obtain ⟨n1, r1, I1, h3, h4⟩ := hkn _ _ _ _ hls hokr hk2 N M G hS
          refine ⟨max n0 n1, r1, I1, fun n9 hn => ?_, h4⟩
          rw [key N M G _ I0 n9 hS (h1 n9 (by omega))]
          exact h3 n9 (by omega)
        · obtain ⟨mg, hmg, K⟩ := hcz _ _ _ _ h hokt
          rw [hg] at hmg
          cases hmg
          refine GoI.of_stp hm hl ?_
          intro N M G hS
          obtain ⟨n0, r0, I0, h1, x, rfl, hx, hk2⟩ := K N M G hS
          obtain ⟨n1, r1, I1, h3, h4⟩ := hkn _ _ _ _ hls (okFS_cons hx hokr) hk2 N M G hS
          refine ⟨max n0 n1, r1, I1, fun n9 hn => ?_, h4⟩
          rw [key N M G _ I0 n9 hS (h1 n9 (by omega))]
          exact h3 n9 (by omega)
        · obtain ⟨mg, hmg, K⟩ := hcz _ _ _ _ h hokt
          rw [hg] at hmg
          cases hmg
          refine GoI.of_stp hm hl ?_
          intro N M G hS
          obtain ⟨n0, r0, I0, h1, x, rfl, hx, hk2⟩ := K N M G hS
          obtain ⟨n1, r1, I1, h3, h4⟩ := hkn _ _ _ _ hls (okFS_cons hx hokr) hk2 N M G hS
          refine ⟨max n0 n1, r1, I1, fun n9 hn => ?_, h4⟩
          rw [key N M G _ I0 n9 hS (h1 n9 (by omega))]
          exact h3 n9 (by omega)
        · obtain ⟨mg, hmg, K⟩ := hcr _ _ _ _ h hokt
          rw [hg] at hmg
          cases hmg
          refine GoI.of_stp hm hl ?_
          intro N M G hS
          obtain ⟨n0, r0, I0, h1, q, rfl, hx, hk2⟩ := K N M G hS
          obtain ⟨n1, r1, I1, h3, h4⟩ := hkn _ _ _ _ hls (okFS_cons hx hokr) hk2 N M G hS
          refine ⟨max n0 n1, r1, I1, fun n9 hn => ?_, h4⟩
          rw [key N M G _ I0 n9 hS (h1 n9 (by omega))]
          exact h3 n9 (by omega)
        · exact h.elim
      · exact h.elim
    · exact h.elim
  · exact h.elim
theorem sv_stat {f : Nat} {mm : MT} {pc n a b : Nat} {v : Int32} {ls : AL} {st : List AV} {I : Mm} {P : Option Value → Mm → Prop} {kn : Nat → AL → List AV → Mm → Prop} {cz : Nat → List AV → Mm → (NV → Mm → Prop) → Prop} {cv : Nat → List AV → Mm → (Mm → Prop) → Prop} {cr : Nat → List AV → Mm → (RF → Mm → Prop) → Prop} {rt : AR → Mm → Prop} (hm : mT f = some mm) (hls : okFL ls) (hst : okFS st) (hkn : ∀ pc ls st I, okFL ls → okFS st → kn pc ls st I → GoI f pc (avL ls) (st.map av) I P) {z : Nat} (hcz : ∀ (g : Nat) (as : List AV) (I : Mm) (K : NV → Mm → Prop), cz g as I K → okFS as → CallN g as I K) (hcv : ∀ (g : Nat) (as : List AV) (I : Mm) (K : Mm → Prop), cv g as I K → okFS as → CallV g as I K) (hcr : ∀ (g : Nat) (as : List AV) (I : Mm) (K : RF → Mm → Prop), cr g as I K → okFS as → CallR g as I K) (hl : lkE (cd f) pc = some (pc, .invokestatic z, n, v, a, b)) (h : vst mm (pc, .invokestatic z, n, v, a, b) ls st I kn cz cv cr rt) : GoI f pc (avL ls) (st.map av) I P := by
  simp only [vst] at h
  split at h
  · rename_i ha
    split at h
    · rename_i mz dp r1 sp r0 rest
      split at h
      · rename_i hc
        obtain ⟨t0, t1, c7⟩ := hc
        have hr0 : rest = [] := List.eq_nil_of_length_eq_zero (by omega)
        subst hr0
        obtain ⟨⟨c2, c3, c4, c5, c6⟩, h⟩ := h
        have hv1 := okFS_head (okFS_tail (okFS_tail hst))
        have hv0 := okFS_head (okFS_tail (okFS_tail (okFS_tail (okFS_tail hst))))
        rw [vi_wr (okFS_head hst)] at c4 c5 c6 h
        rw [vi_wr (okFS_head (okFS_tail hst))] at c3 c6 h
        rw [vi_wr (okFS_head (okFS_tail (okFS_tail (okFS_tail hst))))] at c2 c5 h
        have K := hkn _ _ _ _ hls (fun w hw => absurd hw List.not_mem_nil) (h _ rfl)
        refine GoI.of_stp hm hl ?_
        intro N M G hS
        obtain ⟨n0, r0, I0, h1, h2⟩ := K N M G hS
        refine ⟨n0, r0, I0, fun n9 hn => ?_, h2⟩
        simp only [stp, List.map_cons, av]
        have q2 : ∀ {x : Int}, 0 ≤ wr x → ¬ Int32.ofInt x < 0 := fun hx e => by have := (i_lt0 _).mp e; omega
        rw [if_pos ha, if_pos ⟨shC hS hv0 t0, shC hS hv1 t1, q2 c2, q2 c3, q2 c4, by rw [shL hS hv0, clamp_wr c2, clamp_wr c4]; omega, by rw [shL hS hv1, clamp_wr c3, clamp_wr c4]; omega, Nat.le_refl 0⟩]
        exact h1 n9 hn
      · exact h.elim
    · exact h.elim
  · rename_i ha
    split at h
    · rename_i hb
      split at h
      · rename_i y x rest
        split at h
        · rename_i c1
          rw [vi_wr (okFS_head hst), vi_wr (okFS_head (okFS_tail hst))] at h
          have K := hkn _ _ _ _ hls (okFS_cons (okF_1 (x := if wr y.2 < wr x.2 then wr y.2 else wr x.2) (by split <;> exact wr_in _) 1) (okFS_tail (okFS_tail hst))) h
          refine GoI.of_stp hm hl ?_
          intro N M G hS
          obtain ⟨n0, r0, I0, h1, h2⟩ := K N M G hS
          refine ⟨n0, r0, I0, fun n9 hn => ?_, h2⟩
          simp only [stp, List.map_cons, av]
          rw [if_neg ha, if_pos hb, if_pos ⟨by simpa using c1, (okv_of hS (okFS_tail (okFS_tail hst))).1⟩]
          have e : (if Int32.ofInt y.2 < Int32.ofInt x.2 then Int32.ofInt y.2 else Int32.ofInt x.2) = Int32.ofInt (if wr y.2 < wr x.2 then wr y.2 else wr x.2) := by
            by_cases hc : wr y.2 < wr x.2
            · rw [if_pos hc, if_pos ((i_lt _ _).mpr hc), of_wr]
            · rw [if_neg hc, if_neg (fun z => hc ((i_lt _ _).mp z)), of_wr]
          rw [e]
          exact h1 n9 hn
        · exact h.elim
      · exact h.elim
    · rename_i hb
      split at h
      · rename_i g hg
        split at h
        · rename_i hc
          have hsp : st = st.take g.2.2.2.2.2.1 ++ st.drop g.2.2.2.2.2.1 := by rw [List.take_append_drop]
          have hokr : okFS (st.drop g.2.2.2.2.2.1) := fun w hw => hst w (List.mem_of_mem_drop hw)
          have hokk : okFS (st.take g.2.2.2.2.2.1) := fun w hw => hst w (List.mem_of_mem_take hw)
          have hokt : okFS (st.take g.2.2.2.2.2.1).reverse := fun w hw => hokk w (List.mem_reverse.mp hw)
          have key : ∀ (N M : Nat) (G : Gm) (w : Option Value) (I0 : Mm) (n9 : Nat), Shp N G → run n9 none a 0 (entL g (AV.av' (st.take g.2.2.2.2.2.1).reverse)) [] (N, M, G, I) = some (w, (N, M, G, I0)) → stp none (clR n9) (run n9 none f) mm (pc, .invokestatic z, n, v, a, b) (avL ls) (st.map av) (N, M, G, I) = run n9 none f (pc + n) (avL ls) (w.toList ++ (st.drop g.2.2.2.2.2.1).map av) (N, M, G, I0) := by
            intro N M G w I0 n9 hS h1
            have e2 : clR n9 a ((st.map av).take g.2.2.2.2.2.1).reverse (N, M, G, I) = some (w, (N, M, G, I0)) := by
              unfold clR
              rw [hg]
              unfold AV.av' at h1
              rw [List.map_reverse, List.map_take] at h1
              exact h1
            simp only [stp, hg, e2]
            rw [if_neg ha, if_neg hb, if_pos ⟨by simpa using hc.1, by simpa using hc.2, by rw [← List.map_take]; exact (okv_of hS hokk).2, okl_of hS hls, by rw [← List.map_drop]; exact (okv_of hS hokr).1⟩, ← List.map_drop]
          split at h
          · obtain ⟨mg, hmg, K⟩ := hcv _ _ _ _ h hokt
            rw [hg] at hmg
            cases hmg
            refine GoI.of_stp hm hl ?_
            intro N M G hS
            obtain ⟨n0, r0, I0, h1, rfl, hk2⟩ := K N M G hS
            obtain ⟨n1, r1, I1, h3, h4⟩ := hkn _ _ _ _ hls hokr hk2 N M G hS
            refine ⟨max n0 n1, r1, I1, fun n9 hn => ?_, h4⟩
            rw [key N M G _ I0 n9 hS (h1 n9 (by omega))]
            exact h3 n9 (by omega)
          · obtain ⟨mg, hmg, K⟩ := hcz _ _ _ _ h hokt
            rw [hg] at hmg
            cases hmg
            refine GoI.of_stp hm hl ?_
            intro N M G hS
            obtain ⟨n0, r0, I0, h1, x, rfl, hx, hk2⟩ := K N M G hS
            obtain ⟨n1, r1, I1, h3, h4⟩ := hkn _ _ _ _ hls (okFS_cons hx hokr) hk2 N M G hS
            refine ⟨max n0 n1, r1, I1, fun n9 hn => ?_, h4⟩
            rw [key N M G _ I0 n9 hS (h1 n9 (by omega))]
            exact h3 n9 (by omega)
          · obtain ⟨mg, hmg, K⟩ := hcz _ _ _ _ h hokt
            rw [hg] at hmg
            cases hmg
            refine GoI.of_stp hm hl ?_
            intro N M G hS
            obtain ⟨n0, r0, I0, h1, x, rfl, hx, hk2⟩ := K N M G hS
            obtain ⟨n1, r1, I1, h3, h4⟩ := hkn _ _ _ _ hls (okFS_cons hx hokr) hk2 N M G hS
            refine ⟨max n0 n1, r1, I1, fun n9 hn => ?_, h4⟩
            rw [key N M G _ I0 n9 hS (h1 n9 (by omega))]
            exact h3 n9 (by omega)
          · exact h.elim
        · exact h.elim
      · exact h.elim
theorem sv_ireturn {f : Nat} {mm : MT} {pc n a b : Nat} {v : Int32} {ls : AL} {st : List AV} {I : Mm} {P : Option Value → Mm → Prop} {kn : Nat → AL → List AV → Mm → Prop} {cz : Nat → List AV → Mm → (NV → Mm → Prop) → Prop} {cv : Nat → List AV → Mm → (Mm → Prop) → Prop} {cr : Nat → List AV → Mm → (RF → Mm → Prop) → Prop} {rt : AR → Mm → Prop} (hm : mT f = some mm) (hls : okFL ls) (hst : okFS st) (hkn : ∀ pc ls st I, okFL ls → okFS st → kn pc ls st I → GoI f pc (avL ls) (st.map av) I P) (hrt : ∀ v I, rt v I → okR v → P (arv v) I) (hl : lkE (cd f) pc = some (pc, .ireturn, n, v, a, b)) (h : vst mm (pc, .ireturn, n, v, a, b) ls st I kn cz cv cr rt) : GoI f pc (avL ls) (st.map av) I P := by
  simp only [vst] at h
  split at h
  · rename_i x
    have hf := okFS_head hst
    split at h
    · rename_i hr
      refine GoI.of_stp hm hl ?_
      intro N M G hS
      refine ⟨0, _, I, fun n9 _ => ?_, hrt _ _ h (hf)⟩
      simp only [stp, List.map_cons, List.map_nil, av, hr, arv]
    · rename_i hr
      obtain ⟨hx, h⟩ := boP_spec h
      rw [vi_wr hf] at hx
      refine GoI.of_stp hm hl ?_
      intro N M G hS
      refine ⟨0, _, I, fun n9 _ => ?_, hrt _ _ h (hf)⟩
      simp only [stp, List.map_cons, List.map_nil, av, hr, arv]
      rw [if_pos (bo_wr hx)]
    · exact h.elim
  · exact h.elim
theorem sv_areturn {f : Nat} {mm : MT} {pc n a b : Nat} {v : Int32} {ls : AL} {st : List AV} {I : Mm} {P : Option Value → Mm → Prop} {kn : Nat → AL → List AV → Mm → Prop} {cz : Nat → List AV → Mm → (NV → Mm → Prop) → Prop} {cv : Nat → List AV → Mm → (Mm → Prop) → Prop} {cr : Nat → List AV → Mm → (RF → Mm → Prop) → Prop} {rt : AR → Mm → Prop} (hm : mT f = some mm) (hls : okFL ls) (hst : okFS st) (hkn : ∀ pc ls st I, okFL ls → okFS st → kn pc ls st I → GoI f pc (avL ls) (st.map av) I P) (hrt : ∀ v I, rt v I → okR v → P (arv v) I) (hl : lkE (cd f) pc = some (pc, .areturn, n, v, a, b)) (h : vst mm (pc, .areturn, n, v, a, b) ls st I kn cz cv cr rt) : GoI f pc (avL ls) (st.map av) I P := by
  simp only [vst] at h
  split at h
  · rename_i x
    split at h
    · rename_i nm hr
      refine GoI.of_stp hm hl ?_
      intro N M G hS
      refine ⟨0, _, I, fun n9 _ => ?_, hrt _ _ h (okFS_head hst)⟩
      simp only [stp, List.map_cons, List.map_nil, av, hr, arv]
      rw [if_pos (hS.1 x (okFS_head hst).1 (okFS_head hst).2).1]
    · exact h.elim
  · exact h.elim
theorem sv_return {f : Nat} {mm : MT} {pc n a b : Nat} {v : Int32} {ls : AL} {st : List AV} {I : Mm} {P : Option Value → Mm → Prop} {kn : Nat → AL → List AV → Mm → Prop} {cz : Nat → List AV → Mm → (NV → Mm → Prop) → Prop} {cv : Nat → List AV → Mm → (Mm → Prop) → Prop} {cr : Nat → List AV → Mm → (RF → Mm → Prop) → Prop} {rt : AR → Mm → Prop} (hm : mT f = some mm) (hls : okFL ls) (hst : okFS st) (hkn : ∀ pc ls st I, okFL ls → okFS st → kn pc ls st I → GoI f pc (avL ls) (st.map av) I P) (hrt : ∀ v I, rt v I → okR v → P (arv v) I) (hl : lkE (cd f) pc = some (pc, .return_, n, v, a, b)) (h : vst mm (pc, .return_, n, v, a, b) ls st I kn cz cv cr rt) : GoI f pc (avL ls) (st.map av) I P := by
  simp only [vst] at h
  split at h
  · split at h
    · rename_i hr
      refine GoI.of_stp hm hl ?_
      intro N M G hS
      refine ⟨0, _, I, fun n9 _ => ?_, hrt _ _ h (trivial)⟩
      simp only [stp, List.map_nil, hr, arv]
    · exact h.elim
  · exact h.elim
theorem swP_get {K : Nat → Int → Prop} {pc : Nat} : ∀ {offs : List Int} {lo : Int} {k : Nat} {off : Int}, swP K pc lo offs → offs[k]? = some off → K ((pc : Int) + off).toNat (lo + k)
  | [], lo, k, off, _, h => by cases h
  | q :: offs, lo, 0, off, hs, h => by
    cases h
    have := hs.1
    simpa using this
  | q :: offs, lo, k + 1, off, hs, h => by
    have := swP_get (lo := lo + 1) (k := k) hs.2 h
    rw [show lo + ((k + 1 : Nat) : Int) = lo + 1 + (k : Int) by omega]
    exact this
theorem sv_tabsw {f : Nat} {mm : MT} {pc n a b : Nat} {v : Int32} {ls : AL} {st : List AV} {I : Mm} {P : Option Value → Mm → Prop} {kn : Nat → AL → List AV → Mm → Prop} {cz : Nat → List AV → Mm → (NV → Mm → Prop) → Prop} {cv : Nat → List AV → Mm → (Mm → Prop) → Prop} {cr : Nat → List AV → Mm → (RF → Mm → Prop) → Prop} {rt : AR → Mm → Prop} (hm : mT f = some mm) (hls : okFL ls) (hst : okFS st) (hkn : ∀ pc ls st I, okFL ls → okFS st → kn pc ls st I → GoI f pc (avL ls) (st.map av) I P) {d lo hi : Int} {offs : Array Int} (hl : lkE (cd f) pc = some (pc, .tableswitch d lo hi offs, n, v, a, b)) (hz : okZ (pc, .tableswitch d lo hi offs, n, v, a, b) = true) (h : vst mm (pc, .tableswitch d lo hi offs, n, v, a, b) ls st I kn cz cv cr rt) : GoI f pc (avL ls) (st.map av) I P := by
  simp only [okZ, decide_eq_true_eq] at hz
  simp only [vst] at h
  split at h
  · rename_i x st'
    rw [vi_wr (okFS_head hst)] at h
    have e0 : (Int32.ofInt x.2).toInt = wr x.2 := rfl
    by_cases hc : wr x.2 < lo ∨ hi < wr x.2
    · have K := hkn _ _ _ _ hls (okFS_tail hst) (h.1 hc)
      refine GoI.of_stp hm hl ?_
      intro N M G hS
      obtain ⟨n0, r0, I0, h1, h2⟩ := K N M G hS
      refine ⟨n0, r0, I0, fun n9 hn => ?_, h2⟩
      simp only [stp, List.map_cons, av, e0]
      rw [if_pos hc]
      exact h1 n9 hn
    · have hlt : (wr x.2 - lo).toNat < offs.toList.length := by omega
      have ho : offs.toList[(wr x.2 - lo).toNat]? = some (offs.toList[(wr x.2 - lo).toNat]) := List.getElem?_eq_getElem hlt
      have K := hkn _ _ _ _ hls (okFS_tail hst) (swP_get h.2 ho (by omega))
      refine GoI.of_stp hm hl ?_
      intro N M G hS
      obtain ⟨n0, r0, I0, h1, h2⟩ := K N M G hS
      refine ⟨n0, r0, I0, fun n9 hn => ?_, h2⟩
      simp only [stp, List.map_cons, av, e0]
      rw [if_neg hc, ← Array.getElem?_toList, ho]
      exact h1 n9 hn
  · exact h.elim
theorem loP_get {x : Int} {K : Nat → Prop} {pc : Nat} {d : Int} : ∀ {ps : List (Int × Int)}, loP x K pc d ps → K ((pc : Int) + Op.lookupswitch.offset ps d x).toNat
  | [], h => h
  | (k, off) :: r, h => by
    unfold Op.lookupswitch.offset
    split
    · rename_i hc
      exact h.1 (by first | exact hc | exact hc.symm | simpa using hc | simpa using hc.symm)
    · rename_i hc
      exact loP_get (h.2 (by first | exact hc | exact fun e => hc e.symm | simpa using hc))
theorem sv_looksw {f : Nat} {mm : MT} {pc n a b : Nat} {v : Int32} {ls : AL} {st : List AV} {I : Mm} {P : Option Value → Mm → Prop} {kn : Nat → AL → List AV → Mm → Prop} {cz : Nat → List AV → Mm → (NV → Mm → Prop) → Prop} {cv : Nat → List AV → Mm → (Mm → Prop) → Prop} {cr : Nat → List AV → Mm → (RF → Mm → Prop) → Prop} {rt : AR → Mm → Prop} (hm : mT f = some mm) (hls : okFL ls) (hst : okFS st) (hkn : ∀ pc ls st I, okFL ls → okFS st → kn pc ls st I → GoI f pc (avL ls) (st.map av) I P) {d : Int} {ps : Array (Int × Int)} (hl : lkE (cd f) pc = some (pc, .lookupswitch d ps, n, v, a, b)) (h : vst mm (pc, .lookupswitch d ps, n, v, a, b) ls st I kn cz cv cr rt) : GoI f pc (avL ls) (st.map av) I P := by
  simp only [vst] at h
  split at h
  · rename_i x st'
    rw [vi_wr (okFS_head hst)] at h
    have e0 : (Int32.ofInt x.2).toInt = wr x.2 := rfl
    have K := hkn _ _ _ _ hls (okFS_tail hst) (loP_get h)
    refine GoI.of_stp hm hl ?_
    intro N M G hS
    obtain ⟨n0, r0, I0, h1, h2⟩ := K N M G hS
    refine ⟨n0, r0, I0, fun n9 hn => ?_, h2⟩
    simp only [stp, List.map_cons, av, e0]
    exact h1 n9 hn
  · exact h.elim
set_option maxHeartbeats 1000000 in
theorem vst_sound {f : Nat} {mm : MT} {en : En} {ls : AL} {st : List AV} {I : Mm} {P : Option Value → Mm → Prop} {kn : Nat → AL → List AV → Mm → Prop} {cz : Nat → List AV → Mm → (NV → Mm → Prop) → Prop} {cv : Nat → List AV → Mm → (Mm → Prop) → Prop} {cr : Nat → List AV → Mm → (RF → Mm → Prop) → Prop} {rt : AR → Mm → Prop} (hm : mT f = some mm) (hen : en ∈ cd f) (hls : okFL ls) (hst : okFS st) (hkn : ∀ pc ls st I, okFL ls → okFS st → kn pc ls st I → GoI f pc (avL ls) (st.map av) I P) (hcz : ∀ (g : Nat) (as : List AV) (I : Mm) (K : NV → Mm → Prop), cz g as I K → okFS as → CallN g as I K) (hcv : ∀ (g : Nat) (as : List AV) (I : Mm) (K : Mm → Prop), cv g as I K → okFS as → CallV g as I K) (hcr : ∀ (g : Nat) (as : List AV) (I : Mm) (K : RF → Mm → Prop), cr g as I K → okFS as → CallR g as I K) (hrt : ∀ v I, rt v I → okR v → P (arv v) I) (h : vst mm en ls st I kn cz cv cr rt) : GoI f en.1 (avL ls) (st.map av) I P := by
  have hl := lkE_mem (sorB_all f) hen
  have hz := List.all_eq_true.mp (okZ_all f) en hen
  obtain ⟨pc, i, n, v, a, b⟩ := en
  cases i with
  | iconst z => exact sv_iconst hm hls hst hkn hl hz h
  | bipush z => exact sv_bipush hm hls hst hkn hl hz h
  | sipush z => exact sv_sipush hm hls hst hkn hl hz h
  | ldc z => exact sv_ldc hm hls hst hkn hl h
  | iload z => exact sv_iload hm hls hst hkn hl h
  | iload_n z => exact sv_iload_n hm hls hst hkn hl h
  | aload z => exact sv_aload hm hls hst hkn hl h
  | aload_n z => exact sv_aload_n hm hls hst hkn hl h
  | istore z => exact sv_istore hm hls hst hkn hl h
  | istore_n z => exact sv_istore_n hm hls hst hkn hl h
  | astore z => exact sv_astore hm hls hst hkn hl h
  | astore_n z => exact sv_astore_n hm hls hst hkn hl h
  | iinc z y => exact sv_iinc hm hls hst hkn hl hz h
  | iadd => exact sv_iadd hm hls hst hkn hl h
  | isub => exact sv_isub hm hls hst hkn hl h
  | imul => exact sv_imul hm hls hst hkn hl h
  | idiv => exact sv_idiv hm hls hst hkn hl h
  | irem => exact sv_irem hm hls hst hkn hl h
  | dup => exact sv_dup hm hls hst hkn hl h
  | dup2 => exact sv_dup2 hm hls hst hkn hl h
  | ifCond c z => exact sv_ifCond hm hls hst hkn hl h
  | if_icmp c z => exact sv_icmp hm hls hst hkn hl h
  | goto z => exact sv_goto hm hls hst hkn hl h
  | getfield z => exact sv_getfield hm hls hst hkn hl h
  | putfield z => exact sv_putfield hm hls hst hkn hl h
  | iaload => exact sv_iaload hm hls hst hkn hl h
  | baload => exact sv_baload hm hls hst hkn hl h
  | iastore => exact sv_iastore hm hls hst hkn hl h
  | bastore => exact sv_bastore hm hls hst hkn hl h
  | aaload => exact sv_aaload hm hls hst hkn hl h
  | arraylength => exact sv_alen hm hls hst hkn hl h
  | tableswitch d lo hi offs => exact sv_tabsw hm hls hst hkn hl hz h
  | lookupswitch d ps => exact sv_looksw hm hls hst hkn hl h
  | invokevirtual z => exact sv_virt hm hls hst hkn hcz hcv hcr hl h
  | invokestatic z => exact sv_stat hm hls hst hkn hcz hcv hcr hl h
  | ireturn => exact sv_ireturn hm hls hst hkn hrt hl h
  | areturn => exact sv_areturn hm hls hst hkn hrt hl h
  | return_ => exact sv_return hm hls hst hkn hrt hl h
  | _ => exact (show False from h).elim
/-! stretches of code -/
def hdE (es : List En) (pc : Nat) : Bool := match es with
  | [] => false
  | e :: _ => decide (e.1 = pc)
def lkL : List En → Nat → List En
  | [], _ => []
  | e :: es, pc => if e.1 = pc then e :: es else lkL es pc
def sfx (f : Nat) (es : List En) (pc : Nat) : List En := if hdE es pc = true then es else lkL (cd f) pc
def entA (g : MT) (as : List AV) : AL := as.map some ++ List.replicate (g.2.2.1 - as.length) none
def rN (K : NV → Mm → Prop) (v : AR) (I : Mm) : Prop := match v with
  | some (.inl x) => K x I
  | _ => False
def rZ (K : Int → Mm → Prop) : AR → Mm → Prop := rN (fun x I => K (vi x) I)
def rV (K : Mm → Prop) (v : AR) (I : Mm) : Prop := match v with
  | none => K I
  | _ => False
def rR (K : RF → Mm → Prop) (v : AR) (I : Mm) : Prop := match v with
  | some (.inr q) => K q I
  | _ => False
def vcs (inl : List Nat) : Nat → List Nat → Nat → MT → (Nat → AL → List AV → Mm → Prop) → (AR → Mm → Prop) → List En → Nat → AL → List AV → Mm → Prop
  | 0, _, _, _, _, _, _, _, _, _, _ => False
  | n + 1, cuts, f, mm, kt, rt, es, pc, ls, st, I => match sfx f es pc with
    | [] => False
    | e :: es' => vst mm e ls st I (fun pc' ls' st' I' => if pc' ∈ cuts then kt pc' ls' st' I' else vcs inl n cuts f mm kt rt es' pc' ls' st' I')
      (fun g as I K => if g ∈ inl then (match mT g with
        | some mg => vcs inl n [] g mg (fun _ _ _ _ => False) (rN K) (cd g) 0 (entA mg as) [] I
        | none => False) else CallZ g as I (fun x I' => K (1, x) I'))
      (fun g as I K => if g ∈ inl then (match mT g with
        | some mg => vcs inl n [] g mg (fun _ _ _ _ => False) (rV K) (cd g) 0 (entA mg as) [] I
        | none => False) else CallV g as I K)
      (fun g as I K => if g ∈ inl then (match mT g with
        | some mg => vcs inl n [] g mg (fun _ _ _ _ => False) (rR K) (cd g) 0 (entA mg as) [] I
        | none => False) else CallR g as I K) rt
theorem lkL_spec : ∀ {k : List En} {pc : Nat} {e : En} {es : List En}, lkL k pc = e :: es → e.1 = pc ∧ (∀ q ∈ e :: es, q ∈ k)
  | [], pc, e, es, h => by cases h
  | q :: k, pc, e, es, h => by
    unfold lkL at h
    split at h
    · rename_i hq
      cases h
      exact ⟨hq, fun _ h => h⟩
    · obtain ⟨h1, h2⟩ := lkL_spec h
      exact ⟨h1, fun q hq => List.mem_cons_of_mem _ (h2 q hq)⟩
theorem sfx_spec {f : Nat} {es : List En} {pc : Nat} {e : En} {es' : List En} (hes : ∀ q ∈ es, q ∈ cd f) (h : sfx f es pc = e :: es') : e.1 = pc ∧ (∀ q ∈ e :: es', q ∈ cd f) := by
  unfold sfx at h
  split at h
  · rename_i hh
    subst h
    refine ⟨?_, hes⟩
    simpa [hdE] using hh
  · exact lkL_spec h
theorem entA_eq (g : MT) (as : List AV) : avL (entA g as) = entL g (as.map av) := by
  simp [avL, entA, entL, List.map_append, List.map_map, Function.comp_def]
theorem okFL_ent {g : MT} {as : List AV} (h : okFS as) : okFL (entA g as) := by
  intro v hv
  unfold entA at hv
  rcases List.mem_append.mp hv with h1 | h1
  · obtain ⟨w, hw, e⟩ := List.mem_map.mp h1
    cases e
    exact h v hw
  · exact absurd (List.eq_of_mem_replicate h1) (by simp)
theorem GoI.mono {f pc : Nat} {ls : Lc} {st : List Value} {I : Mm} {P P' : Option Value → Mm → Prop} (h : GoI f pc ls st I P) (hp : ∀ r I', P r I' → P' r I') : GoI f pc ls st I P' := by
  intro N M G hS
  obtain ⟨n0, r, I', h1, h2⟩ := h N M G hS
  exact ⟨n0, r, I', h1, hp _ _ h2⟩
theorem callN_of {g : Nat} {mg : MT} {as : List AV} {I : Mm} {K : NV → Mm → Prop} (hm : mT g = some mg) (h : GoA g 0 (entA mg as) [] I (rN K)) : CallN g as I K := by
  refine ⟨mg, hm, ?_⟩
  unfold GoA at h
  rw [entA_eq] at h
  refine h.mono ?_
  rintro r I' ⟨v, rfl, h1, h2⟩
  cases v with
  | none => exact (show False from h2).elim
  | some w =>
    cases w with
    | inl x => exact ⟨x, rfl, h1, h2⟩
    | inr q => exact (show False from h2).elim
theorem callZ_of {g : Nat} {mg : MT} {as : List AV} {I : Mm} {K : Int → Mm → Prop} (hm : mT g = some mg) (h : GoA g 0 (entA mg as) [] I (rZ K)) : CallZ g as I K := by
  obtain ⟨mg, hm, K⟩ := callN_of hm h
  refine ⟨mg, hm, K.mono ?_⟩
  rintro r I' ⟨x, rfl, h1, h2⟩
  exact ⟨vi x, by rw [of_vi h1], vi_in h1, h2⟩
theorem callV_of {g : Nat} {mg : MT} {as : List AV} {I : Mm} {K : Mm → Prop} (hm : mT g = some mg) (h : GoA g 0 (entA mg as) [] I (rV K)) : CallV g as I K := by
  refine ⟨mg, hm, ?_⟩
  unfold GoA at h
  rw [entA_eq] at h
  refine h.mono ?_
  rintro r I' ⟨v, rfl, h1, h2⟩
  cases v with
  | none => exact ⟨rfl, h2⟩
  | some w => exact (show False from h2).elim
theorem callR_of {g : Nat} {mg : MT} {as : List AV} {I : Mm} {K : RF → Mm → Prop} (hm : mT g = some mg) (h : GoA g 0 (entA mg as) [] I (rR K)) : CallR g as I K := by
  refine ⟨mg, hm, ?_⟩
  unfold GoA at h
  rw [entA_eq] at h
  refine h.mono ?_
  rintro r I' ⟨v, rfl, h1, h2⟩
  cases v with
  | none => exact (show False from h2).elim
  | some w =>
    cases w with
    | inl x => exact (show False from h2).elim
    | inr q => exact ⟨q, rfl, h1, h2⟩
theorem vcs_sound (inl : List Nat) : ∀ (n : Nat) (cuts : List Nat) (f : Nat) (mm : MT) (kt : Nat → AL → List AV → Mm → Prop) (rt : AR → Mm → Prop) (es : List En) (pc : Nat) (ls : AL) (st : List AV) (I : Mm), mT f = some mm → (∀ q ∈ es, q ∈ cd f) → (∀ pc ls st I, kt pc ls st I → GoA f pc ls st I rt) → okFL ls → okFS st → vcs inl n cuts f mm kt rt es pc ls st I → GoA f pc ls st I rt := by
  intro n
  induction n with
  | zero => intro cuts f mm kt rt es pc ls st I _ _ _ _ _ h; exact h.elim
  | succ n ih =>
    intro cuts f mm kt rt es pc ls st I hm hes hkt hls hst h
    unfold vcs at h
    split at h
    · exact h.elim
    · rename_i e es' hs
      obtain ⟨rfl, hmem⟩ := sfx_spec hes hs
      have hnil : okFS [] := fun w hw => absurd hw List.not_mem_nil
      refine vst_sound hm (hmem e List.mem_cons_self) hls hst ?_ ?_ ?_ ?_ ?_ h
      · intro pc' ls' st' I' hl' hs' hk
        split at hk
        · exact hkt _ _ _ _ hk
        · exact ih cuts f mm kt rt es' pc' ls' st' I' hm (fun q hq => hmem q (List.mem_cons_of_mem _ hq)) hkt hl' hs' hk
      · intro g as I' K hc hok
        split at hc
        · split at hc
          · rename_i mg hmg
            exact callN_of hmg (ih [] g mg _ (rN K) (cd g) 0 (entA mg as) [] I' hmg (fun _ h => h) (fun _ _ _ _ h => h.elim) (okFL_ent hok) hnil hc)
          · exact hc.elim
        · obtain ⟨mg, hmg, hc⟩ := hc
          refine ⟨mg, hmg, hc.mono ?_⟩
          rintro r I2 ⟨x, rfl, hx, hk⟩
          exact ⟨(1, x), rfl, okF_1 hx 1, hk⟩
      · intro g as I' K hc hok
        split at hc
        · split at hc
          · rename_i mg hmg
            exact callV_of hmg (ih [] g mg _ (rV K) (cd g) 0 (entA mg as) [] I' hmg (fun _ h => h) (fun _ _ _ _ h => h.elim) (okFL_ent hok) hnil hc)
          · exact hc.elim
        · exact hc
      · intro g as I' K hc hok
        split at hc
        · split at hc
          · rename_i mg hmg
            exact callR_of hmg (ih [] g mg _ (rR K) (cd g) 0 (entA mg as) [] I' hmg (fun _ h => h) (fun _ _ _ _ h => h.elim) (okFL_ent hok) hnil hc)
          · exact hc.elim
        · exact hc
      · intro v I' h1 h2
        exact ⟨v, rfl, h2, h1⟩
/-- a stretch from any place; the numbers may be known by other means than before -/
theorem vgo {inl : List Nat} (n : Nat) (cuts : List Nat) {f pc : Nat} {mm : MT} {ls ls' : AL} {st : List AV} {I : Mm} {rt : AR → Mm → Prop} (hm : mT f = some mm) (he : avL ls' = avL ls) (hls : okFL ls') (hst : okFS st) (h : vcs inl n cuts f mm (fun pc ls st I => GoA f pc ls st I rt) rt (cd f) pc ls' st I) : GoA f pc ls st I rt := by
  have K := vcs_sound inl n cuts f mm _ rt (cd f) pc ls' st I hm (fun _ h => h) (fun _ _ _ _ h => h) hls hst h
  unfold GoA at K ⊢
  rw [he] at K
  exact K
theorem GoA.fl {f pc : Nat} {ls ls' : AL} {st st' : List AV} {I : Mm} {rt : AR → Mm → Prop} (he : avL ls' = avL ls) (hs : st'.map av = st.map av) (h : GoA f pc ls' st' I rt) : GoA f pc ls st I rt := by
  unfold GoA at h ⊢
  rw [he, hs] at h
  exact h
theorem okFL_e : okFL [] := fun w hw => absurd hw List.not_mem_nil
theorem okFS_e : okFS [] := fun w hw => absurd hw List.not_mem_nil
theorem okFL_s {v : AV} {ls : AL} (h : okF v) (t : okFL ls) : okFL (some v :: ls) := by
  intro w hw
  rcases List.mem_cons.mp hw with h1 | h1
  · cases h1; exact h
  · exact t w h1
theorem okFL_n {ls : AL} (t : okFL ls) : okFL (none :: ls) := by
  intro w hw
  rcases List.mem_cons.mp hw with h1 | h1
  · cases h1
  · exact t w h1
def isX (B : Nat) : Prop := ∃ i, i < 6 ∧ B = 62 + 25 * i
def isT (B : Nat) : Prop := ∃ i, i < 8 ∧ B = 22 + 5 * i
def isG (b : Nat) : Prop := b = 2 ∨ b = 4 ∨ b = 8 ∨ b = 10
def isH (b : Nat) : Prop := b = 15 ∨ b = 17
def isW (b : Nat) : Prop := b = 1 ∨ b = 7
def isA (b : Nat) : Prop := b = 213 ∨ b = 214
theorem okF_G {b o : Nat} (h : isG b) (ho : ¬ tkd 4 o = 99) : okF (.inr (4, b, o)) := ⟨h, ho⟩
theorem okF_H {b o : Nat} (h : isH b) (ho : ¬ tkd 5 o = 99) : okF (.inr (5, b, o)) := ⟨h, ho⟩
theorem okF_W {b o : Nat} (h : isW b) (ho : ¬ tkd 6 o = 99) : okF (.inr (6, b, o)) := ⟨h, ho⟩
theorem okF_R {b o : Nat} (h : isA b) (ho : ¬ tkd 7 o = 99) : okF (.inr (7, b, o)) := ⟨h, ho⟩
theorem okF_B {o : Nat} (ho : ¬ tkd 8 o = 99) : okF (.inr (8, 255, o)) := ⟨rfl, ho⟩
theorem okF_X {B o : Nat} (h : isX B) (ho : ¬ tkd 2 o = 99) : okF (.inr (2, B, o)) := ⟨h, ho⟩
theorem okF_T {B o : Nat} (h : isT B) (ho : ¬ tkd 1 o = 99) : okF (.inr (1, B, o)) := ⟨h, ho⟩
theorem okF_A {o : Nat} (ho : ¬ tkd 0 o = 99) : okF (.inr (0, 0, o)) := ⟨trivial, ho⟩
theorem okF_M {o : Nat} (ho : ¬ tkd 3 o = 99) : okF (.inr (3, 0, o)) := ⟨trivial, ho⟩
theorem callZ_fl {g : Nat} {as as' : List AV} {I : Mm} {K : Int → Mm → Prop} (he : as'.map av = as.map av) (h : CallZ g as' I K) : CallZ g as I K := by
  unfold CallZ at h ⊢
  rw [he] at h
  exact h
theorem callV_fl {g : Nat} {as as' : List AV} {I : Mm} {K : Mm → Prop} (he : as'.map av = as.map av) (h : CallV g as' I K) : CallV g as I K := by
  unfold CallV at h ⊢
  rw [he] at h
  exact h
theorem callR_fl {g : Nat} {as as' : List AV} {I : Mm} {K : RF → Mm → Prop} (he : as'.map av = as.map av) (h : CallR g as' I K) : CallR g as I K := by
  unfold CallR at h ⊢
  rw [he] at h
  exact h
