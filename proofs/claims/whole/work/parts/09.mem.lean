theorem upM {ad : Nat → Nat} {rf : Nat → Option Nat} {k q : Nat} : va_up (fun j => (rf j).map ad) k (some (ad q)) = fun j => (va_up rf k (some q) j).map ad := by
  funext j
  by_cases hj : j = k <;> simp [va_up, hj]
theorem ws_wrI {cy : Nat → ClassId} {ad : Nat → Nat} {σ : Sg} {rr k : Nat} {x : Int32} {e : va_E} (he : e = cE cy ad (σ.2.2.1 rr) (upd (σ.2.2.2 rr) k x)) : (wsO cy ad σ).set rr (ad rr, e) = wsO cy ad (wrI σ rr k x) := by
  obtain ⟨N, M, G, I⟩ := σ
  refine wsO_set (G' := G) (I' := va_up I rr (upd (I rr) k x)) ?_ (fun j hj => rfl) (fun j hj => va_up_ne _ _ hj)
  rw [va_up_self]
  exact he
theorem ws_cpI {cy : Nat → ClassId} {ad : Nat → Nat} {σ : Sg} {r0 rr sp dp n : Nat} {e : va_E} (he : e = cE cy ad (σ.2.2.1 rr) (va_cpy (σ.2.2.2 r0) (σ.2.2.2 rr) sp dp n)) : (wsO cy ad σ).set rr (ad rr, e) = wsO cy ad (cpI σ r0 rr sp dp n) := by
  obtain ⟨N, M, G, I⟩ := σ
  refine wsO_set (G' := G) (I' := va_up I rr (va_cpy (I r0) (I rr) sp dp n)) ?_ (fun j hj => rfl) (fun j hj => va_up_ne _ _ hj)
  rw [va_up_self]
  exact he
theorem ws_wrR {cy : Nat → ClassId} {ad : Nat → Nat} {σ : Sg} {rr k q : Nat} {e : va_E} (he : e = cE cy ad ((σ.2.2.1 rr).1, (σ.2.2.1 rr).2.1, va_up (σ.2.2.1 rr).2.2 k (some q)) (σ.2.2.2 rr)) : (wsO cy ad σ).set rr (ad rr, e) = wsO cy ad (wrR σ rr k q) := by
  obtain ⟨N, M, G, I⟩ := σ
  refine wsO_set (G' := va_up G rr ((G rr).1, (G rr).2.1, va_up (G rr).2.2 k (some q))) (I' := I) ?_ (fun j hj => va_up_ne _ _ hj) (fun j hj => rfl)
  rw [va_up_self]
  exact he
theorem ws_obj {cy : Nat → ClassId} {ad : Nat → Nat} {σ : Sg} {rr a : Nat} (h : hsC σ rr a) (ha : a < 10) : (wsO cy ad σ)[rr]? = some (ad rr, .inr (a, fvL ad (σ.2.2.1 rr).2.2 (σ.2.2.2 rr) (ftk a) 0)) := by
  rw [wsO_get h.1, cE_obj h.2 ha]
theorem ws_10 {cy : Nat → ClassId} {ad : Nat → Nat} {σ : Sg} {rr : Nat} (h : hsC σ rr 10) : (wsO cy ad σ)[rr]? = some (ad rr, .inl (cy 0, (σ.2.2.1 rr).2.1, .inl (σ.2.2.2 rr))) := by
  rw [wsO_get h.1, cE_10 h.2]
theorem ws_11 {cy : Nat → ClassId} {ad : Nat → Nat} {σ : Sg} {rr : Nat} (h : hsC σ rr 11) : (wsO cy ad σ)[rr]? = some (ad rr, .inl (cy 1, (σ.2.2.1 rr).2.1, .inl (σ.2.2.2 rr))) := by
  rw [wsO_get h.1, cE_11 h.2]
theorem ws_12 {cy : Nat → ClassId} {ad : Nat → Nat} {σ : Sg} {rr : Nat} (h : hsC σ rr 12) : (wsO cy ad σ)[rr]? = some (ad rr, .inl (cy 2, (σ.2.2.1 rr).2.1, .inr (.inr (.inr (.inr (fun j => ((σ.2.2.1 rr).2.2 j).map ad)))))) := by
  rw [wsO_get h.1, cE_12 h.2]
theorem ws_13 {cy : Nat → ClassId} {ad : Nat → Nat} {σ : Sg} {rr : Nat} (h : hsC σ rr 13) : (wsO cy ad σ)[rr]? = some (ad rr, .inl (cy 3, (σ.2.2.1 rr).2.1, .inr (.inr (.inr (.inr (fun j => ((σ.2.2.1 rr).2.2 j).map ad)))))) := by
  rw [wsO_get h.1, cE_13 h.2]
set_option maxHeartbeats 1000000 in
theorem sd_getfield {l : Launch} {X : Option (Nat × (Nat → Int32))} {cl : Nat → List Value → Sg → Rs} {kn : Kn} {mm : MT} {pc n a b : Nat} {v : Int32} {ls : Lc} {st : List Value} {σ : Sg} {r : Option Value} {σ' : Sg} (hk : ∀ (pc : Nat) (ls : Lc) (st : List Value) (τ : Sg) (r : Option Value) (σ' : Sg), kn pc ls st τ = some (r, σ') → Snd l X mm pc ls st τ r σ') {x : Nat} (hdec : decode mm.2.1 pc = .ok (.getfield x, n)) (hok : okE mm (pc, .getfield x, n, v, a, b) = true) (h : stp X cl kn mm (pc, .getfield x, n, v, a, b) ls st σ = some (r, σ')) : Snd l X mm pc ls st σ r σ' := by
  simp only [okE, Bool.and_eq_true, decide_eq_true_eq] at hok
  obtain ⟨⟨rfl, hb⟩, hfl⟩ := hok
  have ha : a < 10 := NC_pos hb
  simp only [stp] at h
  split at h
  · rename_i rr st'
    split at h
    · rename_i hC
      split at h
      · rename_i hft
        split at h
        · rename_i q hq
          refine (hk _ _ _ _ _ _ h).step rfl rfl id rfl ?_
          intro p e R s m args below meth c H0 H locs cells slots Q A D cy ad bb la C Hh hl hln hcs kk
          refine va_get C.1 C.2.1 C.2.2.2.2.2.1 (hinW a ha) C.2.2.2.2.1 Hh.2.2.1.1 Hh.1 rr (ws_obj hC ha) (vwC a ha) b hb (C.2.2.2.2.2.1 _ (inWS (flT_ok _ hfl) rfl)) (fun _ h => h) (v := .ref (ad q)) ?_ hdec (kk la H locs hl Hh)
          rw [fvL_get, hft]
          simp [hq, va_rf]
        · cases h
      · rename_i t hne hft
        refine (hk _ _ _ _ _ _ h).step rfl rfl id rfl ?_
        intro p e R s m args below meth c H0 H locs cells slots Q A D cy ad bb la C Hh hl hln hcs kk
        refine va_get C.1 C.2.1 C.2.2.2.2.2.1 (hinW a ha) C.2.2.2.2.1 Hh.2.2.1.1 Hh.1 rr (ws_obj hC ha) (vwC a ha) b hb (C.2.2.2.2.2.1 _ (inWS (flT_ok _ hfl) rfl)) (fun _ h => h) (v := .int (σ.2.2.2 rr b)) ?_ hdec (kk la H locs hl Hh)
        rw [fvL_get, hft]
        have h2 : ¬ t = 2 := fun e => hne e
        simp [h2]
      · cases h
    · cases h
  · cases h
set_option maxHeartbeats 1000000 in
theorem sd_putfield {l : Launch} {X : Option (Nat × (Nat → Int32))} {cl : Nat → List Value → Sg → Rs} {kn : Kn} {mm : MT} {pc n a b : Nat} {v : Int32} {ls : Lc} {st : List Value} {σ : Sg} {r : Option Value} {σ' : Sg} (hk : ∀ (pc : Nat) (ls : Lc) (st : List Value) (τ : Sg) (r : Option Value) (σ' : Sg), kn pc ls st τ = some (r, σ') → Snd l X mm pc ls st τ r σ') {x : Nat} (hdec : decode mm.2.1 pc = .ok (.putfield x, n)) (hok : okE mm (pc, .putfield x, n, v, a, b) = true) (h : stp X cl kn mm (pc, .putfield x, n, v, a, b) ls st σ = some (r, σ')) : Snd l X mm pc ls st σ r σ' := by
  simp only [okE, Bool.and_eq_true, decide_eq_true_eq, Bool.or_eq_true] at hok
  obtain ⟨⟨⟨rfl, hb⟩, hfl⟩, hfin⟩ := hok
  have ha : a < 10 := NC_pos hb
  obtain ⟨t0, t1, t2, t3, t4⟩ := ftk_ty a ha b hb
  simp only [stp] at h
  split at h
  · rename_i y rr st'
    split at h
    · rename_i hC
      split at h
      · rename_i hft
        have hnf : (TC a b).2.2.2 = false := by
          cases hz : (TC a b).2.2.2 with
          | false => rfl
          | true => rw [t3.mpr hz] at hft; cases hft
        refine (hk _ _ _ _ _ _ h).step rfl rfl wf_wrI rfl ?_
        intro p e R s m args below meth c H0 H locs cells slots Q A D cy ad bb la C Hh hl hln hcs kk
        refine va_put C.1 C.2.1 C.2.2.2.2.2.1 (hinW a ha) (tyC a) (tyC_ok a ha) (nmC a ha) C.2.2.2.2.1 Hh.2.2.1.1 Hh.1 Hh.2.1 Hh.2.2.2.1 rr (ws_obj hC ha) (vwC a ha) b hb (C.2.2.2.2.2.1 _ (inWS (flT_ok _ hfl) rfl)) (fun _ h => h) hnf (v := .int y) (tyC_ok a ha b hb) (by rw [t0 hft]; rfl) (by rw [t0 hft]; rfl) (by rw [fvL_len, t4]; exact hb) hdec (fun H1 locs1 hP hD hS => kk la H1 locs1 hl (Hh.setI (ws_wrI ?_) hP hD hS))
        rw [fvL_setI _ _ _ _ _ _ _ hft (by decide), cE_obj hC.2 ha]
      · rename_i hft
        split at h
        · rename_i hy
          have hnf : (TC a b).2.2.2 = false := by
            cases hz : (TC a b).2.2.2 with
            | false => rfl
            | true => rw [t3.mpr hz] at hft; cases hft
          refine (hk _ _ _ _ _ _ h).step rfl rfl wf_wrI rfl ?_
          intro p e R s m args below meth c H0 H locs cells slots Q A D cy ad bb la C Hh hl hln hcs kk
          refine va_put C.1 C.2.1 C.2.2.2.2.2.1 (hinW a ha) (tyC a) (tyC_ok a ha) (nmC a ha) C.2.2.2.2.1 Hh.2.2.1.1 Hh.1 Hh.2.1 Hh.2.2.2.1 rr (ws_obj hC ha) (vwC a ha) b hb (C.2.2.2.2.2.1 _ (inWS (flT_ok _ hfl) rfl)) (fun _ h => h) hnf (v := .int y) (tyC_ok a ha b hb) (by rw [t1 hft]; exact (bo_fit hy).1) (by rw [t1 hft]; exact (bo_fit hy).2.1) (by rw [fvL_len, t4]; exact hb) hdec (fun H1 locs1 hP hD hS => kk la H1 locs1 hl (Hh.setI (ws_wrI ?_) hP hD hS))
          rw [fvL_setI _ _ _ _ _ _ _ hft (by decide), cE_obj hC.2 ha]
        · cases h
      · cases h
    · cases h
  · rename_i q rr st'
    split at h
    · rename_i hC
      have hft := hC.2.2
      have hf : (TC a b).2.2.2 = true := t3.mp hft
      have hd : mm.2.2.2.2.2.2.2.2 = 2 ∧ (TC a b).1 = RC mm.2.2.2.2.1 := by
        rcases hfin with hz | hz
        · rw [hf] at hz; cases hz
        · exact hz
      refine (hk _ _ _ _ _ _ h).step rfl rfl (wf_wrR hC.2.1) rfl ?_
      intro p e R s m args below meth c H0 H locs cells slots Q A D cy ad bb la C Hh hl hln hcs kk
      refine va_putF C.1 C.2.1 C.2.2.2.2.2.1 (hinW a ha) (tyC a) (tyC_ok a ha) (nmC a ha) C.2.2.2.2.1 Hh.2.2.1.1 Hh.1 Hh.2.1 Hh.2.2.2.1 rr (ws_obj hC.1 ha) (vwC a ha) b hb (C.2.2.2.2.2.1 _ (inWS (flT_ok _ hfl) rfl)) (fun _ h => h) hf (C.2.2.2.2.2.2.2.2.2 hd.1) hd.2 (v := .ref (ad q)) (tyC_ok a ha b hb) (rt_fit (t2 hft) _).1 (rt_fit (t2 hft) _).2 (by rw [fvL_len, t4]; exact hb) hdec (fun H1 locs1 hP hD hS => kk la H1 locs1 hl (Hh.setI (ws_wrR ?_) hP hD hS))
      rw [fvL_setR _ _ _ _ _ _ hft]
      exact (cE_obj (g := ((σ.2.2.1 rr).1, (σ.2.2.1 rr).2.1, va_up (σ.2.2.1 rr).2.2 b (some q))) hC.1.2 ha).symm
    · cases h
  · cases h
set_option maxHeartbeats 1000000 in
theorem sd_iaload {l : Launch} {X : Option (Nat × (Nat → Int32))} {cl : Nat → List Value → Sg → Rs} {kn : Kn} {mm : MT} {pc n a b : Nat} {v : Int32} {ls : Lc} {st : List Value} {σ : Sg} {r : Option Value} {σ' : Sg} (hk : ∀ (pc : Nat) (ls : Lc) (st : List Value) (τ : Sg) (r : Option Value) (σ' : Sg), kn pc ls st τ = some (r, σ') → Snd l X mm pc ls st τ r σ') (hdec : decode mm.2.1 pc = .ok (.iaload, n)) (hok : okE mm (pc, .iaload, n, v, a, b) = true) (h : stp X cl kn mm (pc, .iaload, n, v, a, b) ls st σ = some (r, σ')) : Snd l X mm pc ls st σ r σ' := by
  obtain rfl : n = 1 := by simpa only [okE, decide_eq_true_eq] using hok
  simp only [stp] at h
  split at h
  · rename_i i rr st'
    split at h
    · rename_i hC
      split at h
      · cases h
      · rename_i hb
        refine (hk _ _ _ _ _ _ h).step rfl rfl id rfl ?_
        intro p e R s m args below meth c H0 H locs cells slots Q A D cy ad bb la C Hh hl hln hcs kk
        exact va_iald C.1 C.2.1 Hh.2.2.1.1 Hh.1 rr 0 (ws_10 hC) rfl hb hdec (kk la H locs hl Hh)
    · cases h
  · rename_i i zz st'
    split at h
    · rename_i L xs
      split at h
      · cases h
      · rename_i hb
        refine (hk _ _ _ _ _ _ h).step rfl rfl id rfl ?_
        intro p e R s m args below meth c H0 H locs cells slots Q A D cy ad bb la C Hh hl hln hcs kk
        obtain ⟨x1, x2, x3⟩ := Hh.2.2.2.2.2 L xs rfl
        exact va_sld C.1 C.2.1 x1 x2 x3 Hh.2.2.2.1 hb hdec (kk la H locs hl Hh)
    · cases h
  · cases h
set_option maxHeartbeats 1000000 in
theorem sd_baload {l : Launch} {X : Option (Nat × (Nat → Int32))} {cl : Nat → List Value → Sg → Rs} {kn : Kn} {mm : MT} {pc n a b : Nat} {v : Int32} {ls : Lc} {st : List Value} {σ : Sg} {r : Option Value} {σ' : Sg} (hk : ∀ (pc : Nat) (ls : Lc) (st : List Value) (τ : Sg) (r : Option Value) (σ' : Sg), kn pc ls st τ = some (r, σ') → Snd l X mm pc ls st τ r σ') (hdec : decode mm.2.1 pc = .ok (.baload, n)) (hok : okE mm (pc, .baload, n, v, a, b) = true) (h : stp X cl kn mm (pc, .baload, n, v, a, b) ls st σ = some (r, σ')) : Snd l X mm pc ls st σ r σ' := by
  obtain rfl : n = 1 := by simpa only [okE, decide_eq_true_eq] using hok
  simp only [stp] at h
  split at h
  · rename_i i rr st'
    split at h
    · rename_i hC
      split at h
      · cases h
      · rename_i hb
        refine (hk _ _ _ _ _ _ h).step rfl rfl id rfl ?_
        intro p e R s m args below meth c H0 H locs cells slots Q A D cy ad bb la C Hh hl hln hcs kk
        exact va_zald C.1 C.2.1 Hh.2.2.1.1 Hh.1 rr 1 (ws_11 hC) rfl hb hdec (kk la H locs hl Hh)
    · cases h
  · cases h
set_option maxHeartbeats 1000000 in
theorem sd_iastore {l : Launch} {X : Option (Nat × (Nat → Int32))} {cl : Nat → List Value → Sg → Rs} {kn : Kn} {mm : MT} {pc n a b : Nat} {v : Int32} {ls : Lc} {st : List Value} {σ : Sg} {r : Option Value} {σ' : Sg} (hk : ∀ (pc : Nat) (ls : Lc) (st : List Value) (τ : Sg) (r : Option Value) (σ' : Sg), kn pc ls st τ = some (r, σ') → Snd l X mm pc ls st τ r σ') (hdec : decode mm.2.1 pc = .ok (.iastore, n)) (hok : okE mm (pc, .iastore, n, v, a, b) = true) (h : stp X cl kn mm (pc, .iastore, n, v, a, b) ls st σ = some (r, σ')) : Snd l X mm pc ls st σ r σ' := by
  obtain rfl : n = 1 := by simpa only [okE, decide_eq_true_eq] using hok
  simp only [stp] at h
  split at h
  · rename_i y i rr st'
    split at h
    · rename_i hC
      split at h
      · cases h
      · rename_i hb
        refine (hk _ _ _ _ _ _ h).step rfl rfl wf_wrI rfl ?_
        intro p e R s m args below meth c H0 H locs cells slots Q A D cy ad bb la C Hh hl hln hcs kk
        refine va_iast C.1 C.2.1 Hh.2.2.1.1 Hh.1 Hh.2.1 Hh.2.2.2.1 rr 0 (ws_10 hC) rfl hb hdec (fun H1 locs1 hP hD hS => kk la H1 locs1 hl (Hh.setI (ws_wrI ?_) hP hD hS))
        rw [cE_10 hC.2]
    · cases h
  · cases h
set_option maxHeartbeats 1000000 in
theorem sd_bastore {l : Launch} {X : Option (Nat × (Nat → Int32))} {cl : Nat → List Value → Sg → Rs} {kn : Kn} {mm : MT} {pc n a b : Nat} {v : Int32} {ls : Lc} {st : List Value} {σ : Sg} {r : Option Value} {σ' : Sg} (hk : ∀ (pc : Nat) (ls : Lc) (st : List Value) (τ : Sg) (r : Option Value) (σ' : Sg), kn pc ls st τ = some (r, σ') → Snd l X mm pc ls st τ r σ') (hdec : decode mm.2.1 pc = .ok (.bastore, n)) (hok : okE mm (pc, .bastore, n, v, a, b) = true) (h : stp X cl kn mm (pc, .bastore, n, v, a, b) ls st σ = some (r, σ')) : Snd l X mm pc ls st σ r σ' := by
  obtain rfl : n = 1 := by simpa only [okE, decide_eq_true_eq] using hok
  simp only [stp] at h
  split at h
  · rename_i y i rr st'
    split at h
    · rename_i hC
      split at h
      · cases h
      · rename_i hb
        refine (hk _ _ _ _ _ _ h).step rfl rfl wf_wrI rfl ?_
        intro p e R s m args below meth c H0 H locs cells slots Q A D cy ad bb la C Hh hl hln hcs kk
        refine va_zast C.1 C.2.1 Hh.2.2.1.1 Hh.1 Hh.2.1 Hh.2.2.2.1 rr 1 (ws_11 hC.1) rfl hb hdec (fun H1 locs1 hP hD hS => kk la H1 locs1 hl (Hh.setI (ws_wrI ?_) hP hD hS))
        rw [cE_11 hC.1.2, (bo_fit hC.2).2.2]
    · cases h
  · cases h
set_option maxHeartbeats 1000000 in
theorem sd_aaload {l : Launch} {X : Option (Nat × (Nat → Int32))} {cl : Nat → List Value → Sg → Rs} {kn : Kn} {mm : MT} {pc n a b : Nat} {v : Int32} {ls : Lc} {st : List Value} {σ : Sg} {r : Option Value} {σ' : Sg} (hk : ∀ (pc : Nat) (ls : Lc) (st : List Value) (τ : Sg) (r : Option Value) (σ' : Sg), kn pc ls st τ = some (r, σ') → Snd l X mm pc ls st τ r σ') (hdec : decode mm.2.1 pc = .ok (.aaload, n)) (hok : okE mm (pc, .aaload, n, v, a, b) = true) (h : stp X cl kn mm (pc, .aaload, n, v, a, b) ls st σ = some (r, σ')) : Snd l X mm pc ls st σ r σ' := by
  obtain rfl : n = 1 := by simpa only [okE, decide_eq_true_eq] using hok
  simp only [stp] at h
  split at h
  · rename_i i rr st'
    split at h
    · rename_i hC
      split at h
      · cases h
      · rename_i hb
        split at h
        · rename_i q hq
          refine (hk _ _ _ _ _ _ h).step rfl rfl id rfl ?_
          intro p e R s m args below meth c H0 H locs cells slots Q A D cy ad bb la C Hh hl hln hcs kk
          rcases hC with hC | hC
          · refine va_aldq C.1 C.2.1 Hh.2.2.1.1 Hh.1 rr 2 (ws_12 hC) rfl hb hdec ?_
            rw [hq]
            exact kk la H locs hl Hh
          · refine va_aldq C.1 C.2.1 Hh.2.2.1.1 Hh.1 rr 3 (ws_13 hC) rfl hb hdec ?_
            rw [hq]
            exact kk la H locs hl Hh
        · cases h
    · cases h
  · cases h
set_option maxHeartbeats 1000000 in
theorem sd_aastore {l : Launch} {X : Option (Nat × (Nat → Int32))} {cl : Nat → List Value → Sg → Rs} {kn : Kn} {mm : MT} {pc n a b : Nat} {v : Int32} {ls : Lc} {st : List Value} {σ : Sg} {r : Option Value} {σ' : Sg} (hk : ∀ (pc : Nat) (ls : Lc) (st : List Value) (τ : Sg) (r : Option Value) (σ' : Sg), kn pc ls st τ = some (r, σ') → Snd l X mm pc ls st τ r σ') (hdec : decode mm.2.1 pc = .ok (.aastore, n)) (hok : okE mm (pc, .aastore, n, v, a, b) = true) (h : stp X cl kn mm (pc, .aastore, n, v, a, b) ls st σ = some (r, σ')) : Snd l X mm pc ls st σ r σ' := by
  obtain rfl : n = 1 := by simpa only [okE, decide_eq_true_eq] using hok
  simp only [stp] at h
  split at h
  · rename_i q i rr st'
    split at h
    · rename_i hC
      split at h
      · cases h
      · rename_i hb
        refine (hk _ _ _ _ _ _ h).step rfl rfl (wf_wrR (hC.elim (fun z => z.2.1) (fun z => z.2.1))) rfl ?_
        intro p e R s m args below meth c H0 H locs cells slots Q A D cy ad bb la C Hh hl hln hcs kk
        rcases hC with hC | hC
        · refine va_astq C.1 C.2.1 Hh.2.2.1.1 Hh.1 Hh.2.1 Hh.2.2.2.1 rr 2 q 6 (r := (RX6, TX6, 5)) (ws_12 hC.1) rfl (ws_obj hC.2 (by decide)) rfl hb hdec (fun H1 locs1 hP hD hS => kk la H1 locs1 hl (Hh.setI (ws_wrR ?_) hP hD hS))
          rw [upM]
          exact (cE_12 (g := ((σ.2.2.1 rr).1, (σ.2.2.1 rr).2.1, va_up (σ.2.2.1 rr).2.2 i.toNatClampNeg (some q))) hC.1.2).symm
        · refine va_astq C.1 C.2.1 Hh.2.2.1.1 Hh.1 Hh.2.1 Hh.2.2.2.1 rr 3 q 2 (r := (RX2, TX2, 13)) (ws_13 hC.1) rfl (ws_obj hC.2 (by decide)) rfl hb hdec (fun H1 locs1 hP hD hS => kk la H1 locs1 hl (Hh.setI (ws_wrR ?_) hP hD hS))
          rw [upM]
          exact (cE_13 (g := ((σ.2.2.1 rr).1, (σ.2.2.1 rr).2.1, va_up (σ.2.2.1 rr).2.2 i.toNatClampNeg (some q))) hC.1.2).symm
    · cases h
  · cases h
set_option maxHeartbeats 1000000 in
theorem sd_alen {l : Launch} {X : Option (Nat × (Nat → Int32))} {cl : Nat → List Value → Sg → Rs} {kn : Kn} {mm : MT} {pc n a b : Nat} {v : Int32} {ls : Lc} {st : List Value} {σ : Sg} {r : Option Value} {σ' : Sg} (hk : ∀ (pc : Nat) (ls : Lc) (st : List Value) (τ : Sg) (r : Option Value) (σ' : Sg), kn pc ls st τ = some (r, σ') → Snd l X mm pc ls st τ r σ') (hdec : decode mm.2.1 pc = .ok (.arraylength, n)) (hok : okE mm (pc, .arraylength, n, v, a, b) = true) (h : stp X cl kn mm (pc, .arraylength, n, v, a, b) ls st σ = some (r, σ')) : Snd l X mm pc ls st σ r σ' := by
  obtain rfl : n = 1 := by simpa only [okE, decide_eq_true_eq] using hok
  simp only [stp] at h
  split at h
  · rename_i rr st'
    split at h
    · rename_i hC
      refine (hk _ _ _ _ _ _ h).step rfl rfl id rfl ?_
      intro p e R s m args below meth c H0 H locs cells slots Q A D cy ad bb la C Hh hl hln hcs kk
      exact va_alen C.1 C.2.1 Hh.2.2.1.1 Hh.1 rr 0 (ws_10 hC) rfl rfl hdec (kk la H locs hl Hh)
    · cases h
  · rename_i zz st'
    split at h
    · rename_i L xs
      refine (hk _ _ _ _ _ _ h).step rfl rfl id rfl ?_
      intro p e R s m args below meth c H0 H locs cells slots Q A D cy ad bb la C Hh hl hln hcs kk
      obtain ⟨x1, x2, x3⟩ := Hh.2.2.2.2.2 L xs rfl
      exact va_slen C.1 C.2.1 x1 x2 x3 Hh.2.2.2.1 hdec (kk la H locs hl Hh)
    · cases h
  · cases h
set_option maxHeartbeats 1000000 in
theorem sd_tabsw {l : Launch} {X : Option (Nat × (Nat → Int32))} {cl : Nat → List Value → Sg → Rs} {kn : Kn} {mm : MT} {pc n a b : Nat} {v : Int32} {ls : Lc} {st : List Value} {σ : Sg} {r : Option Value} {σ' : Sg} (hk : ∀ (pc : Nat) (ls : Lc) (st : List Value) (τ : Sg) (r : Option Value) (σ' : Sg), kn pc ls st τ = some (r, σ') → Snd l X mm pc ls st τ r σ') {d lo hi : Int} {offs : Array Int} (hdec : decode mm.2.1 pc = .ok (.tableswitch d lo hi offs, n)) (hok : okE mm (pc, .tableswitch d lo hi offs, n, v, a, b) = true) (h : stp X cl kn mm (pc, .tableswitch d lo hi offs, n, v, a, b) ls st σ = some (r, σ')) : Snd l X mm pc ls st σ r σ' := by
  simp only [okE, Bool.and_eq_true, decide_eq_true_eq] at hok
  simp only [stp] at h
  split at h
  · rename_i x st'
    split at h
    · rename_i hx
      refine (hk _ _ _ _ _ _ h).step rfl rfl id rfl ?_
      intro p e R s m args below meth c H0 H locs cells slots Q A D cy ad bb la C Hh hl hln hcs kk
      exact lv_tableOut C.1 C.2.1 hdec hx (by rw [Int.toNat_of_nonneg hok.1]) (kk la H locs hl Hh)
    · rename_i hx
      split at h
      · rename_i off ho
        have h0 : 0 ≤ (pc : Int) + off := by
          have hm : off ∈ offs.toList := by
            rw [← Array.getElem?_toList] at ho
            exact List.mem_of_getElem? ho
          simpa using List.all_eq_true.mp hok.2 off hm
        refine (hk _ _ _ _ _ _ h).step rfl rfl id rfl ?_
        intro p e R s m args below meth c H0 H locs cells slots Q A D cy ad bb la C Hh hl hln hcs kk
        exact lv_tableIn C.1 C.2.1 hdec (fun z => hx (Or.inl z)) (fun z => hx (Or.inr z)) ho (by rw [Int.toNat_of_nonneg h0]) (kk la H locs hl Hh)
      · cases h
  · cases h
theorem osw_mem : ∀ (ps : List (Int × Int)) (d x : Int), Op.lookupswitch.offset ps d x = d ∨ ∃ q ∈ ps, Op.lookupswitch.offset ps d x = q.2
  | [], d, x => Or.inl rfl
  | (k, q) :: ps, d, x => by
    unfold Op.lookupswitch.offset
    split
    · exact Or.inr ⟨_, List.mem_cons_self, rfl⟩
    · rcases osw_mem ps d x with h | ⟨q, h1, h2⟩
      · exact Or.inl h
      · exact Or.inr ⟨q, List.mem_cons_of_mem _ h1, h2⟩
set_option maxHeartbeats 1000000 in
theorem sd_looksw {l : Launch} {X : Option (Nat × (Nat → Int32))} {cl : Nat → List Value → Sg → Rs} {kn : Kn} {mm : MT} {pc n a b : Nat} {v : Int32} {ls : Lc} {st : List Value} {σ : Sg} {r : Option Value} {σ' : Sg} (hk : ∀ (pc : Nat) (ls : Lc) (st : List Value) (τ : Sg) (r : Option Value) (σ' : Sg), kn pc ls st τ = some (r, σ') → Snd l X mm pc ls st τ r σ') {d : Int} {ps : Array (Int × Int)} (hdec : decode mm.2.1 pc = .ok (.lookupswitch d ps, n)) (hok : okE mm (pc, .lookupswitch d ps, n, v, a, b) = true) (h : stp X cl kn mm (pc, .lookupswitch d ps, n, v, a, b) ls st σ = some (r, σ')) : Snd l X mm pc ls st σ r σ' := by
  simp only [okE, Bool.and_eq_true, decide_eq_true_eq] at hok
  simp only [stp] at h
  split at h
  · rename_i x st'
    have h0 : 0 ≤ (pc : Int) + Op.lookupswitch.offset ps.toList d x.toInt := by
      rcases osw_mem ps.toList d x.toInt with e | ⟨q, h1, h2⟩
      · rw [e]; exact hok.1.1
      · rw [h2]; simpa using List.all_eq_true.mp hok.1.2 q h1
    refine (hk _ _ _ _ _ _ h).step rfl rfl id rfl ?_
    intro p e R s m args below meth c H0 H locs cells slots Q A D cy ad bb la C Hh hl hln hcs kk
    exact lv_lookup C.1 C.2.1 hdec hok.2 rfl (by rw [Int.toNat_of_nonneg h0]) (kk la H locs hl Hh)
  · cases h
