set_option maxHeartbeats 1000000 in
theorem sd_ireturn {l : Launch} {X : Option (Nat × (Nat → Int32))} {cl : Nat → List Value → Sg → Rs} {kn : Kn} {mm : MT} {pc n a b : Nat} {v : Int32} {ls : Lc} {st : List Value} {σ : Sg} {r : Option Value} {σ' : Sg} (hk : ∀ (pc : Nat) (ls : Lc) (st : List Value) (τ : Sg) (r : Option Value) (σ' : Sg), kn pc ls st τ = some (r, σ') → Snd l X mm pc ls st τ r σ') (hdec : decode mm.2.1 pc = .ok (.ireturn, n)) (hok : okE mm (pc, .ireturn, n, v, a, b) = true) (h : stp X cl kn mm (pc, .ireturn, n, v, a, b) ls st σ = some (r, σ')) : Snd l X mm pc ls st σ r σ' := by
  obtain rfl : n = 1 := by simpa only [okE, decide_eq_true_eq] using hok
  simp only [stp] at h
  split at h
  · rename_i x
    split at h
    · rename_i hr
      cases h
      refine fun hw => ⟨hw, Nat.le_refl _, Nat.le_refl _, ⟨pc, ⟨Or.inl hr, hdec⟩⟩, ?_⟩
      intro p e R s m args below meth c H0 H locs cells slots Q A D cy ad bb la C Hh hl hln hcc hss hQ
      have := hQ ad H locs pc la (fun _ _ => rfl) Hh (⟨Or.inl hr, hdec⟩)
      rw [Nat.sub_self, Nat.sub_self] at this
      exact this
    · rename_i hr
      split at h
      · rename_i hx
        cases h
        refine fun hw => ⟨hw, Nat.le_refl _, Nat.le_refl _, ⟨pc, ⟨Or.inr ⟨hr, hx⟩, hdec⟩⟩, ?_⟩
        intro p e R s m args below meth c H0 H locs cells slots Q A D cy ad bb la C Hh hl hln hcc hss hQ
        have := hQ ad H locs pc la (fun _ _ => rfl) Hh (⟨Or.inr ⟨hr, hx⟩, hdec⟩)
        rw [Nat.sub_self, Nat.sub_self] at this
        exact this
      · cases h
    · cases h
  · cases h
set_option maxHeartbeats 1000000 in
theorem sd_areturn {l : Launch} {X : Option (Nat × (Nat → Int32))} {cl : Nat → List Value → Sg → Rs} {kn : Kn} {mm : MT} {pc n a b : Nat} {v : Int32} {ls : Lc} {st : List Value} {σ : Sg} {r : Option Value} {σ' : Sg} (hk : ∀ (pc : Nat) (ls : Lc) (st : List Value) (τ : Sg) (r : Option Value) (σ' : Sg), kn pc ls st τ = some (r, σ') → Snd l X mm pc ls st τ r σ') (hdec : decode mm.2.1 pc = .ok (.areturn, n)) (hok : okE mm (pc, .areturn, n, v, a, b) = true) (h : stp X cl kn mm (pc, .areturn, n, v, a, b) ls st σ = some (r, σ')) : Snd l X mm pc ls st σ r σ' := by
  obtain rfl : n = 1 := by simpa only [okE, decide_eq_true_eq] using hok
  simp only [stp] at h
  split at h
  · rename_i x
    split at h
    · rename_i nm hr
      split at h
      · rename_i hx
        cases h
        refine fun hw => ⟨hw, Nat.le_refl _, Nat.le_refl _, ⟨pc, ⟨⟨nm, hr⟩, hdec, hx⟩⟩, ?_⟩
        intro p e R s m args below meth c H0 H locs cells slots Q A D cy ad bb la C Hh hl hln hcc hss hQ
        have := hQ ad H locs pc la (fun _ _ => rfl) Hh (⟨⟨nm, hr⟩, hdec, hx⟩)
        rw [Nat.sub_self, Nat.sub_self] at this
        exact this
      · cases h
    · cases h
  · cases h
set_option maxHeartbeats 1000000 in
theorem sd_return {l : Launch} {X : Option (Nat × (Nat → Int32))} {cl : Nat → List Value → Sg → Rs} {kn : Kn} {mm : MT} {pc n a b : Nat} {v : Int32} {ls : Lc} {st : List Value} {σ : Sg} {r : Option Value} {σ' : Sg} (hk : ∀ (pc : Nat) (ls : Lc) (st : List Value) (τ : Sg) (r : Option Value) (σ' : Sg), kn pc ls st τ = some (r, σ') → Snd l X mm pc ls st τ r σ') (hdec : decode mm.2.1 pc = .ok (.return_, n)) (hok : okE mm (pc, .return_, n, v, a, b) = true) (h : stp X cl kn mm (pc, .return_, n, v, a, b) ls st σ = some (r, σ')) : Snd l X mm pc ls st σ r σ' := by
  obtain rfl : n = 1 := by simpa only [okE, decide_eq_true_eq] using hok
  simp only [stp] at h
  split at h
  · split at h
    · rename_i hr
      cases h
      refine fun hw => ⟨hw, Nat.le_refl _, Nat.le_refl _, ⟨pc, ⟨hr, hdec⟩⟩, ?_⟩
      intro p e R s m args below meth c H0 H locs cells slots Q A D cy ad bb la C Hh hl hln hcc hss hQ
      have := hQ ad H locs pc la (fun _ _ => rfl) Hh (⟨hr, hdec⟩)
      rw [Nat.sub_self, Nat.sub_self] at this
      exact this
    · cases h
  · cases h
/-- a new cell, put before what follows it -/
theorem Snd.fresh {l : Launch} {X : Option (Nat × (Nat → Int32))} {mm : MT} {pc pc' kd len sl : Nat} {ls : Lc} {st st' : List Value} {σ : Sg} {r : Option Value} {σ' : Sg} (hS : Snd l X mm pc' ls (.ref σ.1 :: st') (nwC σ kd len sl) r σ') (hok : okl σ.1 ls = true) (hst : st'.all (okv σ.1) = true)
    (hW : ∀ (p : Program) (e : Env) (R : Room) (s : State) (m : MethodId) (args : Array Value) (below : List Frame) (meth : Method) (c : Code) (H0 H : Heap) (locs : List Loc) (cells slots : Nat) (Q : State → Prop) (A : Nat → Prop) (D : va_G) (cy : Nat → ClassId) (ad : Nat → Nat) (b : Nat) (la : Array Slot),
      Ctx p R s m args meth c mm → Hld D cy ad A H0 H locs σ s X b → cells + 1 ≤ R.cells → slots + sl ≤ R.slots →
      (∀ (q : Nat) (H' : Heap), va_P D vwCl (wsO cy ad σ ++ [(q, cE cy (va_up ad σ.1 q) (kd, len, fun _ => none) (fun _ => 0))]) H' → va_D A (wsO cy ad σ ++ [(q, cE cy (va_up ad σ.1 q) (kd, len, fun _ => none) (fun _ => 0))]) → va_S A H0 H' locs → W p l e R s m args below meth c H' locs (cells + 1) (slots + sl) Q (F0 m pc' la (.ref q :: st'.map (vz ad b)))) →
      W p l e R s m args below meth c H locs cells slots Q (F0 m pc la (st.map (vz ad b)))) : Snd l X mm pc ls st σ r σ' := by
  intro hw
  obtain ⟨a1, a2, a3, a4, k⟩ := hS (wf_nw hw)
  have a2 : σ.1 + 1 ≤ σ'.1 := a2
  have a3 : σ.2.1 + sl ≤ σ'.2.1 := a3
  refine ⟨a1, by omega, by omega, a4, ?_⟩
  intro p e R s m args below meth c H0 H locs cells slots Q A D cy ad b la C Hh hl hln hc hs hQ
  refine hW p e R s m args below meth c H0 H locs cells slots Q A D cy ad b la C Hh (by omega) (by omega) ?_
  intro q H' hP hD hS
  have hne : ∀ z, z < σ.1 → va_up ad σ.1 q z = ad z := fun z hz => va_up_ne _ _ (Nat.ne_of_lt hz)
  rw [← wsO_push (sl := sl) hw] at hP hD
  have K := k p e R s m args below meth c H0 H' locs (cells + 1) (slots + sl) Q A D cy (va_up ad σ.1 q) b la C ⟨hP, hD, Hh.2.2.1, hS, Hh.2.2.2.2⟩ (hl.moved hok hne) hln (by show cells + 1 + (σ'.1 - (σ.1 + 1)) ≤ _; omega) (by show slots + sl + (σ'.2.1 - (σ.2.1 + sl)) ≤ _; omega) ?_
  · have e1 : (Value.ref σ.1 :: st').map (vz (va_up ad σ.1 q) b) = .ref q :: st'.map (vz ad b) := by
      rw [List.map_cons, vz_all hne hst]
      show Value.ref (va_up ad σ.1 q σ.1) :: _ = _
      rw [va_up_self]
    rw [e1] at K
    exact K
  · intro ad2 H2 locs2 pc2 la2 h2 Hh2 hR2
    have := hQ ad2 H2 locs2 pc2 la2 (fun z hz => (h2 z (Nat.lt_succ_of_lt hz)).trans (hne z hz)) Hh2 hR2
    have z1 : cells + 1 + (σ'.1 - (nwC σ kd len sl).1) = cells + (σ'.1 - σ.1) := by show cells + 1 + (σ'.1 - (σ.1 + 1)) = _; omega
    have z2 : slots + sl + (σ'.2.1 - (nwC σ kd len sl).2.1) = slots + (σ'.2.1 - σ.2.1) := by show slots + sl + (σ'.2.1 - (σ.2.1 + sl)) = _; omega
    rw [z1, z2]
    exact this
set_option maxHeartbeats 1000000 in
theorem sd_new {l : Launch} {X : Option (Nat × (Nat → Int32))} {cl : Nat → List Value → Sg → Rs} {kn : Kn} {mm : MT} {pc n a b : Nat} {v : Int32} {ls : Lc} {st : List Value} {σ : Sg} {r : Option Value} {σ' : Sg} (hk : ∀ (pc : Nat) (ls : Lc) (st : List Value) (τ : Sg) (r : Option Value) (σ' : Sg), kn pc ls st τ = some (r, σ') → Snd l X mm pc ls st τ r σ') {x : Nat} (hdec : decode mm.2.1 pc = .ok (.new x, n)) (hok : okE mm (pc, .new x, n, v, a, b) = true) (h : stp X cl kn mm (pc, .new x, n, v, a, b) ls st σ = some (r, σ')) : Snd l X mm pc ls st σ r σ' := by
  simp only [okE, Bool.and_eq_true, decide_eq_true_eq] at hok
  obtain ⟨rfl, hnw⟩ := hok
  simp only [stp] at h
  split at h
  · rename_i hc
    obtain ⟨hc1, hc2, ha⟩ := hc
    refine (hk _ _ _ _ _ _ h).fresh hc1 hc2 ?_
    intro p e R s m args below meth c H0 H locs cells slots Q A D cy ad bb la C Hh hcc hss kk
    have hcl : Cond.classLink (RC mm.2.2.2.2.1) x (RC a) ∈ lw_tbl := nwT_ok _ hnw
    refine va_new (fs := dfL (ftk a)) C.1 C.2.1 C.2.2.2.2.2.1 (hinW a ha) (tyC a) (tyC_ok a ha) C.2.2.2.2.1 (C.2.2.2.2.2.1 _ (inWS hcl rfl)) (C.2.2.2.2.2.1 _ (inWS (instC a ha).1 rfl)) (C.2.2.2.2.2.1 _ (inWS (instC a ha).2 rfl)) Hh.2.2.1.1 Hh.1 Hh.2.1 Hh.2.2.2.1 Hh.2.2.2.2.1 (vwC a ha) (dfC a ha) hcc hss hdec (fun q H1 hP hD hS => ?_)
    refine kk q H1 ?_ ?_ hS
    · rw [cE_obj (g := (a, 0, fun _ => none)) rfl ha, dfL_eq]
      exact hP
    · rw [cE_obj (g := (a, 0, fun _ => none)) rfl ha, dfL_eq]
      exact hD
  · cases h
theorem cy_eq {D : va_G} {cy : Nat → ClassId} {s : State} {cA : ClassId} {ty : FieldType} (k : Nat) (hK : va_K D vwCl (tysO cy ++ [(cA, ty)]) s) (hk : (tysO cy)[k]? = some (cy k, ty)) : cA = cy k := by
  have h1 := (hK.2 4 (cA, ty) rfl).2
  have h2 := (hK.2 k (cy k, ty) (by rw [List.getElem?_append_left (List.getElem?_eq_some_iff.mp hk).1]; exact hk)).2
  cases ty with
  | object C =>
    obtain ⟨_, _, _, _, _, e1⟩ := h1
    obtain ⟨_, _, _, _, _, e2⟩ := h2
    rw [e1] at e2
    exact Option.some.inj e2
  | _ =>
    have e1 : s.vm.findClass _ = some cA := h1
    have e2 : s.vm.findClass _ = some (cy k) := h2
    rw [e1] at e2
    exact Option.some.inj e2
set_option maxHeartbeats 1000000 in
theorem sd_newarray {l : Launch} {X : Option (Nat × (Nat → Int32))} {cl : Nat → List Value → Sg → Rs} {kn : Kn} {mm : MT} {pc n a b : Nat} {v : Int32} {ls : Lc} {st : List Value} {σ : Sg} {r : Option Value} {σ' : Sg} (hk : ∀ (pc : Nat) (ls : Lc) (st : List Value) (τ : Sg) (r : Option Value) (σ' : Sg), kn pc ls st τ = some (r, σ') → Snd l X mm pc ls st τ r σ') {t : ArrayType} (hdec : decode mm.2.1 pc = .ok (.newarray t, n)) (hok : okE mm (pc, .newarray t, n, v, a, b) = true) (h : stp X cl kn mm (pc, .newarray t, n, v, a, b) ls st σ = some (r, σ')) : Snd l X mm pc ls st σ r σ' := by
  simp only [okE, Bool.and_eq_true, decide_eq_true_eq, Bool.or_eq_true] at hok
  obtain ⟨rfl, hta⟩ := hok
  simp only [stp] at h
  split at h
  · rename_i x st'
    split at h
    · rename_i hc
      obtain ⟨hc1, hc2, hc3, hc4, hc5⟩ := hc
      rcases hta with ⟨rfl, rfl⟩ | ⟨rfl, rfl⟩
      · refine (hk _ _ _ _ _ _ h).fresh hc1 hc2 ?_
        intro p e R s m args below meth c H0 H locs cells slots Q A D cy ad bb la C Hh hcc hss kk
        refine va_newa (atype := .int) (ty := .int) (a0 := (x.toNatClampNeg, .inl (fun _ => 0))) C.1 C.2.1 (C.2.2.2.2.2.1 _ (inWS ww_ari rfl)) rfl Hh.2.2.1.1 Hh.1 Hh.2.1 Hh.2.2.2.1 Hh.2.2.2.2.1 (fun cA => rfl) hc3 rfl (by show _ * 4 ≤ _; omega) hcc hss hdec (fun q cA H1 hK hP hD hS => ?_)
        have hcA := cy_eq 0 hK rfl
        subst hcA
        refine kk q H1 ?_ ?_ hS
        · rw [cE_10 (g := (10, x.toNatClampNeg, fun _ => none)) rfl]; exact hP
        · rw [cE_10 (g := (10, x.toNatClampNeg, fun _ => none)) rfl]; exact hD
      · refine (hk _ _ _ _ _ _ h).fresh hc1 hc2 ?_
        intro p e R s m args below meth c H0 H locs cells slots Q A D cy ad bb la C Hh hcc hss kk
        refine va_newa (atype := .boolean) (ty := .boolean) (a0 := (x.toNatClampNeg, .inl (fun _ => 0))) C.1 C.2.1 (C.2.2.2.2.2.1 _ (inWS ww_arz rfl)) rfl Hh.2.2.1.1 Hh.1 Hh.2.1 Hh.2.2.2.1 Hh.2.2.2.2.1 (fun cA => rfl) hc3 rfl (by show _ * 1 ≤ _; omega) hcc hss hdec (fun q cA H1 hK hP hD hS => ?_)
        have hcA := cy_eq 1 hK rfl
        subst hcA
        refine kk q H1 ?_ ?_ hS
        · rw [cE_11 (g := (11, x.toNatClampNeg, fun _ => none)) rfl]; exact hP
        · rw [cE_11 (g := (11, x.toNatClampNeg, fun _ => none)) rfl]; exact hD
    · cases h
  · cases h
set_option maxHeartbeats 1000000 in
theorem sd_anewarray {l : Launch} {X : Option (Nat × (Nat → Int32))} {cl : Nat → List Value → Sg → Rs} {kn : Kn} {mm : MT} {pc n a b : Nat} {v : Int32} {ls : Lc} {st : List Value} {σ : Sg} {r : Option Value} {σ' : Sg} (hk : ∀ (pc : Nat) (ls : Lc) (st : List Value) (τ : Sg) (r : Option Value) (σ' : Sg), kn pc ls st τ = some (r, σ') → Snd l X mm pc ls st τ r σ') {x : Nat} (hdec : decode mm.2.1 pc = .ok (.anewarray x, n)) (hok : okE mm (pc, .anewarray x, n, v, a, b) = true) (h : stp X cl kn mm (pc, .anewarray x, n, v, a, b) ls st σ = some (r, σ')) : Snd l X mm pc ls st σ r σ' := by
  simp only [okE, Bool.and_eq_true, decide_eq_true_eq, Bool.or_eq_true] at hok
  obtain ⟨rfl, hta⟩ := hok
  simp only [stp] at h
  split at h
  · rename_i y st'
    split at h
    · rename_i hc
      obtain ⟨hc1, hc2, hc3, hc4, hc5⟩ := hc
      rcases hta with ⟨rfl, hnw⟩ | ⟨rfl, hnw⟩
      · refine (hk _ _ _ _ _ _ h).fresh hc1 hc2 ?_
        intro p e R s m args below meth c H0 H locs cells slots Q A D cy ad bb la C Hh hcc hss kk
        have hcl : Cond.classLink (RC mm.2.2.2.2.1) x (RC 6) ∈ lw_tbl := nwT_ok _ hnw
        refine va_newq (C := RX6) C.1 C.2.1 C.2.2.2.2.1 (C.2.2.2.2.2.1 _ (inWS hcl rfl)) Hh.2.2.1.2.1 Hh.2.2.1.1 Hh.1 Hh.2.1 Hh.2.2.2.1 Hh.2.2.2.2.1 hc3 rfl (by omega) hcc hss hdec (fun q cA H1 hK hP hD hS => ?_)
        have hcA := cy_eq 2 hK rfl
        subst hcA
        refine kk q H1 ?_ ?_ hS
        · rw [cE_12 (g := (12, y.toNatClampNeg, fun _ => none)) rfl]; exact hP
        · rw [cE_12 (g := (12, y.toNatClampNeg, fun _ => none)) rfl]; exact hD
      · refine (hk _ _ _ _ _ _ h).fresh hc1 hc2 ?_
        intro p e R s m args below meth c H0 H locs cells slots Q A D cy ad bb la C Hh hcc hss kk
        have hcl : Cond.classLink (RC mm.2.2.2.2.1) x (RC 2) ∈ lw_tbl := nwT_ok _ hnw
        refine va_newq (C := RX2) C.1 C.2.1 C.2.2.2.2.1 (C.2.2.2.2.2.1 _ (inWS hcl rfl)) Hh.2.2.1.2.2.1 Hh.2.2.1.1 Hh.1 Hh.2.1 Hh.2.2.2.1 Hh.2.2.2.2.1 hc3 rfl (by omega) hcc hss hdec (fun q cA H1 hK hP hD hS => ?_)
        have hcA := cy_eq 3 hK rfl
        subst hcA
        refine kk q H1 ?_ ?_ hS
        · rw [cE_13 (g := (13, y.toNatClampNeg, fun _ => none)) rfl]; exact hP
        · rw [cE_13 (g := (13, y.toNatClampNeg, fun _ => none)) rfl]; exact hD
    · cases h
  · cases h
