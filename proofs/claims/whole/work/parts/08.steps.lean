set_option maxHeartbeats 1000000 in
theorem sd_iconst {l : Launch} {X : Option (Nat × (Nat → Int32))} {cl : Nat → List Value → Sg → Rs} {kn : Kn} {mm : MT} {pc n a b : Nat} {v : Int32} {ls : Lc} {st : List Value} {σ : Sg} {r : Option Value} {σ' : Sg} (hk : ∀ (pc : Nat) (ls : Lc) (st : List Value) (τ : Sg) (r : Option Value) (σ' : Sg), kn pc ls st τ = some (r, σ') → Snd l X mm pc ls st τ r σ') {z : Int} (hdec : decode mm.2.1 pc = .ok (.iconst z, n)) (hok : okE mm (pc, .iconst z, n, v, a, b) = true) (h : stp X cl kn mm (pc, .iconst z, n, v, a, b) ls st σ = some (r, σ')) : Snd l X mm pc ls st σ r σ' := by
  simp only [okE, Bool.and_eq_true, decide_eq_true_eq] at hok
  obtain rfl : n = 1 := hok.1
  have h : kn (pc + 1) ls (.int v :: st) σ = some (r, σ') := h
  refine (hk _ _ _ _ _ _ h).step rfl rfl id rfl ?_
  intro p e R s m args below meth c H0 H locs cells slots Q A D cy ad bb la C Hh hl hln hcs kk
  exact lv_iconst C.1 C.2.1 hdec hok.2 (kk la H locs hl Hh)
set_option maxHeartbeats 1000000 in
theorem sd_bipush {l : Launch} {X : Option (Nat × (Nat → Int32))} {cl : Nat → List Value → Sg → Rs} {kn : Kn} {mm : MT} {pc n a b : Nat} {v : Int32} {ls : Lc} {st : List Value} {σ : Sg} {r : Option Value} {σ' : Sg} (hk : ∀ (pc : Nat) (ls : Lc) (st : List Value) (τ : Sg) (r : Option Value) (σ' : Sg), kn pc ls st τ = some (r, σ') → Snd l X mm pc ls st τ r σ') {z : Int} (hdec : decode mm.2.1 pc = .ok (.bipush z, n)) (hok : okE mm (pc, .bipush z, n, v, a, b) = true) (h : stp X cl kn mm (pc, .bipush z, n, v, a, b) ls st σ = some (r, σ')) : Snd l X mm pc ls st σ r σ' := by
  simp only [okE, Bool.and_eq_true, decide_eq_true_eq] at hok
  obtain rfl : n = 2 := hok.1
  have h : kn (pc + 2) ls (.int v :: st) σ = some (r, σ') := h
  refine (hk _ _ _ _ _ _ h).step rfl rfl id rfl ?_
  intro p e R s m args below meth c H0 H locs cells slots Q A D cy ad bb la C Hh hl hln hcs kk
  exact lv_bipush C.1 C.2.1 hdec hok.2 (kk la H locs hl Hh)
set_option maxHeartbeats 1000000 in
theorem sd_sipush {l : Launch} {X : Option (Nat × (Nat → Int32))} {cl : Nat → List Value → Sg → Rs} {kn : Kn} {mm : MT} {pc n a b : Nat} {v : Int32} {ls : Lc} {st : List Value} {σ : Sg} {r : Option Value} {σ' : Sg} (hk : ∀ (pc : Nat) (ls : Lc) (st : List Value) (τ : Sg) (r : Option Value) (σ' : Sg), kn pc ls st τ = some (r, σ') → Snd l X mm pc ls st τ r σ') {z : Int} (hdec : decode mm.2.1 pc = .ok (.sipush z, n)) (hok : okE mm (pc, .sipush z, n, v, a, b) = true) (h : stp X cl kn mm (pc, .sipush z, n, v, a, b) ls st σ = some (r, σ')) : Snd l X mm pc ls st σ r σ' := by
  simp only [okE, Bool.and_eq_true, decide_eq_true_eq] at hok
  obtain rfl : n = 3 := hok.1
  have h : kn (pc + 3) ls (.int v :: st) σ = some (r, σ') := h
  refine (hk _ _ _ _ _ _ h).step rfl rfl id rfl ?_
  intro p e R s m args below meth c H0 H locs cells slots Q A D cy ad bb la C Hh hl hln hcs kk
  exact lv_sipush C.1 C.2.1 hdec hok.2 (kk la H locs hl Hh)
set_option maxHeartbeats 1000000 in
theorem sd_ldc {l : Launch} {X : Option (Nat × (Nat → Int32))} {cl : Nat → List Value → Sg → Rs} {kn : Kn} {mm : MT} {pc n a b : Nat} {v : Int32} {ls : Lc} {st : List Value} {σ : Sg} {r : Option Value} {σ' : Sg} (hk : ∀ (pc : Nat) (ls : Lc) (st : List Value) (τ : Sg) (r : Option Value) (σ' : Sg), kn pc ls st τ = some (r, σ') → Snd l X mm pc ls st τ r σ') {x : Nat} (hdec : decode mm.2.1 pc = .ok (.ldc x, n)) (hok : okE mm (pc, .ldc x, n, v, a, b) = true) (h : stp X cl kn mm (pc, .ldc x, n, v, a, b) ls st σ = some (r, σ')) : Snd l X mm pc ls st σ r σ' := by
  simp only [okE, Bool.and_eq_true, decide_eq_true_eq] at hok
  obtain rfl : n = 2 := hok.1
  have h : kn (pc + 2) ls (.int v :: st) σ = some (r, σ') := h
  refine (hk _ _ _ _ _ _ h).step rfl rfl id rfl ?_
  intro p e R s m args below meth c H0 H locs cells slots Q A D cy ad bb la C Hh hl hln hcs kk
  exact lv_ldc C.1 C.2.1 C.2.2.2.2.1 (C.2.2.2.2.2.1 _ (inWS (cnT_ok _ hok.2) rfl)) hdec (kk la H locs hl Hh)
set_option maxHeartbeats 1000000 in
theorem sd_iload {l : Launch} {X : Option (Nat × (Nat → Int32))} {cl : Nat → List Value → Sg → Rs} {kn : Kn} {mm : MT} {pc n a b : Nat} {v : Int32} {ls : Lc} {st : List Value} {σ : Sg} {r : Option Value} {σ' : Sg} (hk : ∀ (pc : Nat) (ls : Lc) (st : List Value) (τ : Sg) (r : Option Value) (σ' : Sg), kn pc ls st τ = some (r, σ') → Snd l X mm pc ls st τ r σ') {x : Nat} (hdec : decode mm.2.1 pc = .ok (.iload x, n)) (hok : okE mm (pc, .iload x, n, v, a, b) = true) (h : stp X cl kn mm (pc, .iload x, n, v, a, b) ls st σ = some (r, σ')) : Snd l X mm pc ls st σ r σ' := by
  simp only [okE, Bool.and_eq_true, decide_eq_true_eq] at hok
  obtain ⟨rfl, rfl⟩ : n = 2 ∧ x = a := hok
  simp only [stp] at h
  split at h
  · rename_i y hx
    refine (hk _ _ _ _ _ _ h).step rfl rfl id rfl ?_
    intro p e R s m args below meth c H0 H locs cells slots Q A D cy ad bb la C Hh hl hln hcs kk
    exact lv_iload C.1 C.2.1 hdec (hl.2.2 _ _ hx).1 (kk la H locs hl Hh)
  · cases h
set_option maxHeartbeats 1000000 in
theorem sd_iload_n {l : Launch} {X : Option (Nat × (Nat → Int32))} {cl : Nat → List Value → Sg → Rs} {kn : Kn} {mm : MT} {pc n a b : Nat} {v : Int32} {ls : Lc} {st : List Value} {σ : Sg} {r : Option Value} {σ' : Sg} (hk : ∀ (pc : Nat) (ls : Lc) (st : List Value) (τ : Sg) (r : Option Value) (σ' : Sg), kn pc ls st τ = some (r, σ') → Snd l X mm pc ls st τ r σ') {x : Fin 4} (hdec : decode mm.2.1 pc = .ok (.iload_n x, n)) (hok : okE mm (pc, .iload_n x, n, v, a, b) = true) (h : stp X cl kn mm (pc, .iload_n x, n, v, a, b) ls st σ = some (r, σ')) : Snd l X mm pc ls st σ r σ' := by
  simp only [okE, Bool.and_eq_true, decide_eq_true_eq] at hok
  obtain ⟨rfl, rfl⟩ : n = 1 ∧ x.val = a := hok
  simp only [stp] at h
  split at h
  · rename_i y hx
    refine (hk _ _ _ _ _ _ h).step rfl rfl id rfl ?_
    intro p e R s m args below meth c H0 H locs cells slots Q A D cy ad bb la C Hh hl hln hcs kk
    exact lv_iload_n C.1 C.2.1 hdec rfl (hl.2.2 _ _ hx).1 (kk la H locs hl Hh)
  · cases h
set_option maxHeartbeats 1000000 in
theorem sd_aload {l : Launch} {X : Option (Nat × (Nat → Int32))} {cl : Nat → List Value → Sg → Rs} {kn : Kn} {mm : MT} {pc n a b : Nat} {v : Int32} {ls : Lc} {st : List Value} {σ : Sg} {r : Option Value} {σ' : Sg} (hk : ∀ (pc : Nat) (ls : Lc) (st : List Value) (τ : Sg) (r : Option Value) (σ' : Sg), kn pc ls st τ = some (r, σ') → Snd l X mm pc ls st τ r σ') {x : Nat} (hdec : decode mm.2.1 pc = .ok (.aload x, n)) (hok : okE mm (pc, .aload x, n, v, a, b) = true) (h : stp X cl kn mm (pc, .aload x, n, v, a, b) ls st σ = some (r, σ')) : Snd l X mm pc ls st σ r σ' := by
  simp only [okE, Bool.and_eq_true, decide_eq_true_eq] at hok
  obtain ⟨rfl, rfl⟩ : n = 2 ∧ x = a := hok
  simp only [stp] at h
  split at h
  · rename_i y hx
    refine (hk _ _ _ _ _ _ h).step rfl rfl id rfl ?_
    intro p e R s m args below meth c H0 H locs cells slots Q A D cy ad bb la C Hh hl hln hcs kk
    exact lv_aload C.1 C.2.1 hdec (hl.2.2 _ _ hx).1 (kk la H locs hl Hh)
  · rename_i y hx
    refine (hk _ _ _ _ _ _ h).step rfl rfl id rfl ?_
    intro p e R s m args below meth c H0 H locs cells slots Q A D cy ad bb la C Hh hl hln hcs kk
    exact lv_aload C.1 C.2.1 hdec (hl.2.2 _ _ hx).1 (kk la H locs hl Hh)
  · cases h
set_option maxHeartbeats 1000000 in
theorem sd_aload_n {l : Launch} {X : Option (Nat × (Nat → Int32))} {cl : Nat → List Value → Sg → Rs} {kn : Kn} {mm : MT} {pc n a b : Nat} {v : Int32} {ls : Lc} {st : List Value} {σ : Sg} {r : Option Value} {σ' : Sg} (hk : ∀ (pc : Nat) (ls : Lc) (st : List Value) (τ : Sg) (r : Option Value) (σ' : Sg), kn pc ls st τ = some (r, σ') → Snd l X mm pc ls st τ r σ') {x : Fin 4} (hdec : decode mm.2.1 pc = .ok (.aload_n x, n)) (hok : okE mm (pc, .aload_n x, n, v, a, b) = true) (h : stp X cl kn mm (pc, .aload_n x, n, v, a, b) ls st σ = some (r, σ')) : Snd l X mm pc ls st σ r σ' := by
  simp only [okE, Bool.and_eq_true, decide_eq_true_eq] at hok
  obtain ⟨rfl, rfl⟩ : n = 1 ∧ x.val = a := hok
  simp only [stp] at h
  split at h
  · rename_i y hx
    refine (hk _ _ _ _ _ _ h).step rfl rfl id rfl ?_
    intro p e R s m args below meth c H0 H locs cells slots Q A D cy ad bb la C Hh hl hln hcs kk
    exact lv_aload_n C.1 C.2.1 hdec rfl (hl.2.2 _ _ hx).1 (kk la H locs hl Hh)
  · rename_i y hx
    refine (hk _ _ _ _ _ _ h).step rfl rfl id rfl ?_
    intro p e R s m args below meth c H0 H locs cells slots Q A D cy ad bb la C Hh hl hln hcs kk
    exact lv_aload_n C.1 C.2.1 hdec rfl (hl.2.2 _ _ hx).1 (kk la H locs hl Hh)
  · cases h
set_option maxHeartbeats 1000000 in
theorem sd_istore {l : Launch} {X : Option (Nat × (Nat → Int32))} {cl : Nat → List Value → Sg → Rs} {kn : Kn} {mm : MT} {pc n a b : Nat} {v : Int32} {ls : Lc} {st : List Value} {σ : Sg} {r : Option Value} {σ' : Sg} (hk : ∀ (pc : Nat) (ls : Lc) (st : List Value) (τ : Sg) (r : Option Value) (σ' : Sg), kn pc ls st τ = some (r, σ') → Snd l X mm pc ls st τ r σ') {x : Nat} (hdec : decode mm.2.1 pc = .ok (.istore x, n)) (hok : okE mm (pc, .istore x, n, v, a, b) = true) (h : stp X cl kn mm (pc, .istore x, n, v, a, b) ls st σ = some (r, σ')) : Snd l X mm pc ls st σ r σ' := by
  simp only [okE, Bool.and_eq_true, decide_eq_true_eq] at hok
  obtain ⟨rfl, rfl⟩ : n = 2 ∧ x = a := hok
  simp only [stp] at h
  split at h
  · rename_i y st'
    split at h
    · rename_i ha
      refine (hk _ _ _ _ _ _ h).step rfl rfl id (List.length_set ..) ?_
      intro p e R s m args below meth c H0 H locs cells slots Q A D cy ad bb la C Hh hl hln hcs kk
      exact lv_istore C.1 C.2.1 hdec hl.has ha rfl (fun la' h' => kk la' H locs (hl.put (v := .int y) rfl rfl h') Hh)
    · cases h
  · cases h
set_option maxHeartbeats 1000000 in
theorem sd_istore_n {l : Launch} {X : Option (Nat × (Nat → Int32))} {cl : Nat → List Value → Sg → Rs} {kn : Kn} {mm : MT} {pc n a b : Nat} {v : Int32} {ls : Lc} {st : List Value} {σ : Sg} {r : Option Value} {σ' : Sg} (hk : ∀ (pc : Nat) (ls : Lc) (st : List Value) (τ : Sg) (r : Option Value) (σ' : Sg), kn pc ls st τ = some (r, σ') → Snd l X mm pc ls st τ r σ') {x : Fin 4} (hdec : decode mm.2.1 pc = .ok (.istore_n x, n)) (hok : okE mm (pc, .istore_n x, n, v, a, b) = true) (h : stp X cl kn mm (pc, .istore_n x, n, v, a, b) ls st σ = some (r, σ')) : Snd l X mm pc ls st σ r σ' := by
  simp only [okE, Bool.and_eq_true, decide_eq_true_eq] at hok
  obtain ⟨rfl, rfl⟩ : n = 1 ∧ x.val = a := hok
  simp only [stp] at h
  split at h
  · rename_i y st'
    split at h
    · rename_i ha
      refine (hk _ _ _ _ _ _ h).step rfl rfl id (List.length_set ..) ?_
      intro p e R s m args below meth c H0 H locs cells slots Q A D cy ad bb la C Hh hl hln hcs kk
      exact lv_istore_n C.1 C.2.1 hdec rfl hl.has ha rfl (fun la' h' => kk la' H locs (hl.put (v := .int y) rfl rfl h') Hh)
    · cases h
  · cases h
set_option maxHeartbeats 1000000 in
theorem sd_astore {l : Launch} {X : Option (Nat × (Nat → Int32))} {cl : Nat → List Value → Sg → Rs} {kn : Kn} {mm : MT} {pc n a b : Nat} {v : Int32} {ls : Lc} {st : List Value} {σ : Sg} {r : Option Value} {σ' : Sg} (hk : ∀ (pc : Nat) (ls : Lc) (st : List Value) (τ : Sg) (r : Option Value) (σ' : Sg), kn pc ls st τ = some (r, σ') → Snd l X mm pc ls st τ r σ') {x : Nat} (hdec : decode mm.2.1 pc = .ok (.astore x, n)) (hok : okE mm (pc, .astore x, n, v, a, b) = true) (h : stp X cl kn mm (pc, .astore x, n, v, a, b) ls st σ = some (r, σ')) : Snd l X mm pc ls st σ r σ' := by
  simp only [okE, Bool.and_eq_true, decide_eq_true_eq] at hok
  obtain ⟨rfl, rfl⟩ : n = 2 ∧ x = a := hok
  simp only [stp] at h
  split at h
  · rename_i y st'
    split at h
    · rename_i ha
      refine (hk _ _ _ _ _ _ h).step rfl rfl id (List.length_set ..) ?_
      intro p e R s m args below meth c H0 H locs cells slots Q A D cy ad bb la C Hh hl hln hcs kk
      exact lv_astore C.1 C.2.1 hdec hl.has ha rfl (fun la' h' => kk la' H locs (hl.put (v := .ref y) rfl rfl h') Hh)
    · cases h
  · cases h
set_option maxHeartbeats 1000000 in
theorem sd_astore_n {l : Launch} {X : Option (Nat × (Nat → Int32))} {cl : Nat → List Value → Sg → Rs} {kn : Kn} {mm : MT} {pc n a b : Nat} {v : Int32} {ls : Lc} {st : List Value} {σ : Sg} {r : Option Value} {σ' : Sg} (hk : ∀ (pc : Nat) (ls : Lc) (st : List Value) (τ : Sg) (r : Option Value) (σ' : Sg), kn pc ls st τ = some (r, σ') → Snd l X mm pc ls st τ r σ') {x : Fin 4} (hdec : decode mm.2.1 pc = .ok (.astore_n x, n)) (hok : okE mm (pc, .astore_n x, n, v, a, b) = true) (h : stp X cl kn mm (pc, .astore_n x, n, v, a, b) ls st σ = some (r, σ')) : Snd l X mm pc ls st σ r σ' := by
  simp only [okE, Bool.and_eq_true, decide_eq_true_eq] at hok
  obtain ⟨rfl, rfl⟩ : n = 1 ∧ x.val = a := hok
  simp only [stp] at h
  split at h
  · rename_i y st'
    split at h
    · rename_i ha
      refine (hk _ _ _ _ _ _ h).step rfl rfl id (List.length_set ..) ?_
      intro p e R s m args below meth c H0 H locs cells slots Q A D cy ad bb la C Hh hl hln hcs kk
      exact lv_astore_n C.1 C.2.1 hdec rfl hl.has ha rfl (fun la' h' => kk la' H locs (hl.put (v := .ref y) rfl rfl h') Hh)
    · cases h
  · cases h
set_option maxHeartbeats 1000000 in
theorem sd_iinc {l : Launch} {X : Option (Nat × (Nat → Int32))} {cl : Nat → List Value → Sg → Rs} {kn : Kn} {mm : MT} {pc n a b : Nat} {v : Int32} {ls : Lc} {st : List Value} {σ : Sg} {r : Option Value} {σ' : Sg} (hk : ∀ (pc : Nat) (ls : Lc) (st : List Value) (τ : Sg) (r : Option Value) (σ' : Sg), kn pc ls st τ = some (r, σ') → Snd l X mm pc ls st τ r σ') {x : Nat} {z : Int} (hdec : decode mm.2.1 pc = .ok (.iinc x z, n)) (hok : okE mm (pc, .iinc x z, n, v, a, b) = true) (h : stp X cl kn mm (pc, .iinc x z, n, v, a, b) ls st σ = some (r, σ')) : Snd l X mm pc ls st σ r σ' := by
  simp only [okE, Bool.and_eq_true, decide_eq_true_eq] at hok
  obtain ⟨⟨rfl, rfl⟩, hz⟩ : (n = 3 ∧ x = a) ∧ Int32.ofInt z = v := hok
  simp only [stp] at h
  split at h
  · rename_i y hx
    refine (hk _ _ _ _ _ _ h).step rfl rfl id (List.length_set ..) ?_
    intro p e R s m args below meth c H0 H locs cells slots Q A D cy ad bb la C Hh hl hln hcs kk
    obtain ⟨k, hkk⟩ := List.getElem?_of_mem (lvP_mem (ad := ad) (b := bb) (ls := ls) (q := (x, .int y)) |>.mpr ⟨.int y, hx, rfl⟩)
    exact lv_iinc (v := y + v) C.1 C.2.1 hdec hl.has hkk (by rw [hz]) (List.getElem?_eq_some_iff.mp hx).1 rfl (fun la' h' => kk la' H locs (hl.put (v := .int (y + v)) rfl rfl h') Hh)
  · cases h
set_option maxHeartbeats 1000000 in
theorem sd_iadd {l : Launch} {X : Option (Nat × (Nat → Int32))} {cl : Nat → List Value → Sg → Rs} {kn : Kn} {mm : MT} {pc n a b : Nat} {v : Int32} {ls : Lc} {st : List Value} {σ : Sg} {r : Option Value} {σ' : Sg} (hk : ∀ (pc : Nat) (ls : Lc) (st : List Value) (τ : Sg) (r : Option Value) (σ' : Sg), kn pc ls st τ = some (r, σ') → Snd l X mm pc ls st τ r σ') (hdec : decode mm.2.1 pc = .ok (.iadd, n)) (hok : okE mm (pc, .iadd, n, v, a, b) = true) (h : stp X cl kn mm (pc, .iadd, n, v, a, b) ls st σ = some (r, σ')) : Snd l X mm pc ls st σ r σ' := by
  obtain rfl : n = 1 := by simpa only [okE, decide_eq_true_eq] using hok
  simp only [stp] at h
  split at h
  · rename_i y x st'
    refine (hk _ _ _ _ _ _ h).step rfl rfl id rfl ?_
    intro p e R s m args below meth c H0 H locs cells slots Q A D cy ad bb la C Hh hl hln hcs kk
    exact lv_iadd C.1 C.2.1 hdec (kk la H locs hl Hh)
  · cases h
set_option maxHeartbeats 1000000 in
theorem sd_isub {l : Launch} {X : Option (Nat × (Nat → Int32))} {cl : Nat → List Value → Sg → Rs} {kn : Kn} {mm : MT} {pc n a b : Nat} {v : Int32} {ls : Lc} {st : List Value} {σ : Sg} {r : Option Value} {σ' : Sg} (hk : ∀ (pc : Nat) (ls : Lc) (st : List Value) (τ : Sg) (r : Option Value) (σ' : Sg), kn pc ls st τ = some (r, σ') → Snd l X mm pc ls st τ r σ') (hdec : decode mm.2.1 pc = .ok (.isub, n)) (hok : okE mm (pc, .isub, n, v, a, b) = true) (h : stp X cl kn mm (pc, .isub, n, v, a, b) ls st σ = some (r, σ')) : Snd l X mm pc ls st σ r σ' := by
  obtain rfl : n = 1 := by simpa only [okE, decide_eq_true_eq] using hok
  simp only [stp] at h
  split at h
  · rename_i y x st'
    refine (hk _ _ _ _ _ _ h).step rfl rfl id rfl ?_
    intro p e R s m args below meth c H0 H locs cells slots Q A D cy ad bb la C Hh hl hln hcs kk
    exact lv_isub C.1 C.2.1 hdec (kk la H locs hl Hh)
  · cases h
set_option maxHeartbeats 1000000 in
theorem sd_imul {l : Launch} {X : Option (Nat × (Nat → Int32))} {cl : Nat → List Value → Sg → Rs} {kn : Kn} {mm : MT} {pc n a b : Nat} {v : Int32} {ls : Lc} {st : List Value} {σ : Sg} {r : Option Value} {σ' : Sg} (hk : ∀ (pc : Nat) (ls : Lc) (st : List Value) (τ : Sg) (r : Option Value) (σ' : Sg), kn pc ls st τ = some (r, σ') → Snd l X mm pc ls st τ r σ') (hdec : decode mm.2.1 pc = .ok (.imul, n)) (hok : okE mm (pc, .imul, n, v, a, b) = true) (h : stp X cl kn mm (pc, .imul, n, v, a, b) ls st σ = some (r, σ')) : Snd l X mm pc ls st σ r σ' := by
  obtain rfl : n = 1 := by simpa only [okE, decide_eq_true_eq] using hok
  simp only [stp] at h
  split at h
  · rename_i y x st'
    refine (hk _ _ _ _ _ _ h).step rfl rfl id rfl ?_
    intro p e R s m args below meth c H0 H locs cells slots Q A D cy ad bb la C Hh hl hln hcs kk
    exact lv_imul C.1 C.2.1 hdec (kk la H locs hl Hh)
  · cases h
set_option maxHeartbeats 1000000 in
theorem sd_iand {l : Launch} {X : Option (Nat × (Nat → Int32))} {cl : Nat → List Value → Sg → Rs} {kn : Kn} {mm : MT} {pc n a b : Nat} {v : Int32} {ls : Lc} {st : List Value} {σ : Sg} {r : Option Value} {σ' : Sg} (hk : ∀ (pc : Nat) (ls : Lc) (st : List Value) (τ : Sg) (r : Option Value) (σ' : Sg), kn pc ls st τ = some (r, σ') → Snd l X mm pc ls st τ r σ') (hdec : decode mm.2.1 pc = .ok (.iand, n)) (hok : okE mm (pc, .iand, n, v, a, b) = true) (h : stp X cl kn mm (pc, .iand, n, v, a, b) ls st σ = some (r, σ')) : Snd l X mm pc ls st σ r σ' := by
  obtain rfl : n = 1 := by simpa only [okE, decide_eq_true_eq] using hok
  simp only [stp] at h
  split at h
  · rename_i y x st'
    refine (hk _ _ _ _ _ _ h).step rfl rfl id rfl ?_
    intro p e R s m args below meth c H0 H locs cells slots Q A D cy ad bb la C Hh hl hln hcs kk
    exact lv_iand C.1 C.2.1 hdec (kk la H locs hl Hh)
  · cases h
set_option maxHeartbeats 1000000 in
theorem sd_ixor {l : Launch} {X : Option (Nat × (Nat → Int32))} {cl : Nat → List Value → Sg → Rs} {kn : Kn} {mm : MT} {pc n a b : Nat} {v : Int32} {ls : Lc} {st : List Value} {σ : Sg} {r : Option Value} {σ' : Sg} (hk : ∀ (pc : Nat) (ls : Lc) (st : List Value) (τ : Sg) (r : Option Value) (σ' : Sg), kn pc ls st τ = some (r, σ') → Snd l X mm pc ls st τ r σ') (hdec : decode mm.2.1 pc = .ok (.ixor, n)) (hok : okE mm (pc, .ixor, n, v, a, b) = true) (h : stp X cl kn mm (pc, .ixor, n, v, a, b) ls st σ = some (r, σ')) : Snd l X mm pc ls st σ r σ' := by
  obtain rfl : n = 1 := by simpa only [okE, decide_eq_true_eq] using hok
  simp only [stp] at h
  split at h
  · rename_i y x st'
    refine (hk _ _ _ _ _ _ h).step rfl rfl id rfl ?_
    intro p e R s m args below meth c H0 H locs cells slots Q A D cy ad bb la C Hh hl hln hcs kk
    exact lv_ixor C.1 C.2.1 hdec (kk la H locs hl Hh)
  · cases h
set_option maxHeartbeats 1000000 in
theorem sd_idiv {l : Launch} {X : Option (Nat × (Nat → Int32))} {cl : Nat → List Value → Sg → Rs} {kn : Kn} {mm : MT} {pc n a b : Nat} {v : Int32} {ls : Lc} {st : List Value} {σ : Sg} {r : Option Value} {σ' : Sg} (hk : ∀ (pc : Nat) (ls : Lc) (st : List Value) (τ : Sg) (r : Option Value) (σ' : Sg), kn pc ls st τ = some (r, σ') → Snd l X mm pc ls st τ r σ') (hdec : decode mm.2.1 pc = .ok (.idiv, n)) (hok : okE mm (pc, .idiv, n, v, a, b) = true) (h : stp X cl kn mm (pc, .idiv, n, v, a, b) ls st σ = some (r, σ')) : Snd l X mm pc ls st σ r σ' := by
  obtain rfl : n = 1 := by simpa only [okE, decide_eq_true_eq] using hok
  simp only [stp] at h
  split at h
  · rename_i y x st'
    split at h
    · cases h
    · rename_i hy
      refine (hk _ _ _ _ _ _ h).step rfl rfl id rfl ?_
      intro p e R s m args below meth c H0 H locs cells slots Q A D cy ad bb la C Hh hl hln hcs kk
      exact lv_idiv C.1 C.2.1 hdec hy (kk la H locs hl Hh)
  · cases h
set_option maxHeartbeats 1000000 in
theorem sd_irem {l : Launch} {X : Option (Nat × (Nat → Int32))} {cl : Nat → List Value → Sg → Rs} {kn : Kn} {mm : MT} {pc n a b : Nat} {v : Int32} {ls : Lc} {st : List Value} {σ : Sg} {r : Option Value} {σ' : Sg} (hk : ∀ (pc : Nat) (ls : Lc) (st : List Value) (τ : Sg) (r : Option Value) (σ' : Sg), kn pc ls st τ = some (r, σ') → Snd l X mm pc ls st τ r σ') (hdec : decode mm.2.1 pc = .ok (.irem, n)) (hok : okE mm (pc, .irem, n, v, a, b) = true) (h : stp X cl kn mm (pc, .irem, n, v, a, b) ls st σ = some (r, σ')) : Snd l X mm pc ls st σ r σ' := by
  obtain rfl : n = 1 := by simpa only [okE, decide_eq_true_eq] using hok
  simp only [stp] at h
  split at h
  · rename_i y x st'
    split at h
    · cases h
    · rename_i hy
      refine (hk _ _ _ _ _ _ h).step rfl rfl id rfl ?_
      intro p e R s m args below meth c H0 H locs cells slots Q A D cy ad bb la C Hh hl hln hcs kk
      exact lv_irem C.1 C.2.1 hdec hy (kk la H locs hl Hh)
  · cases h
set_option maxHeartbeats 1000000 in
theorem sd_dup {l : Launch} {X : Option (Nat × (Nat → Int32))} {cl : Nat → List Value → Sg → Rs} {kn : Kn} {mm : MT} {pc n a b : Nat} {v : Int32} {ls : Lc} {st : List Value} {σ : Sg} {r : Option Value} {σ' : Sg} (hk : ∀ (pc : Nat) (ls : Lc) (st : List Value) (τ : Sg) (r : Option Value) (σ' : Sg), kn pc ls st τ = some (r, σ') → Snd l X mm pc ls st τ r σ') (hdec : decode mm.2.1 pc = .ok (.dup, n)) (hok : okE mm (pc, .dup, n, v, a, b) = true) (h : stp X cl kn mm (pc, .dup, n, v, a, b) ls st σ = some (r, σ')) : Snd l X mm pc ls st σ r σ' := by
  obtain rfl : n = 1 := by simpa only [okE, decide_eq_true_eq] using hok
  simp only [stp] at h
  split at h
  · rename_i x st'
    refine (hk _ _ _ _ _ _ h).step rfl rfl id rfl ?_
    intro p e R s m args below meth c H0 H locs cells slots Q A D cy ad bb la C Hh hl hln hcs kk
    exact lv_dup C.1 C.2.1 hdec rfl (kk la H locs hl Hh)
  · rename_i x st'
    refine (hk _ _ _ _ _ _ h).step rfl rfl id rfl ?_
    intro p e R s m args below meth c H0 H locs cells slots Q A D cy ad bb la C Hh hl hln hcs kk
    exact lv_dup C.1 C.2.1 hdec rfl (kk la H locs hl Hh)
  · cases h
set_option maxHeartbeats 1000000 in
theorem sd_dup2 {l : Launch} {X : Option (Nat × (Nat → Int32))} {cl : Nat → List Value → Sg → Rs} {kn : Kn} {mm : MT} {pc n a b : Nat} {v : Int32} {ls : Lc} {st : List Value} {σ : Sg} {r : Option Value} {σ' : Sg} (hk : ∀ (pc : Nat) (ls : Lc) (st : List Value) (τ : Sg) (r : Option Value) (σ' : Sg), kn pc ls st τ = some (r, σ') → Snd l X mm pc ls st τ r σ') (hdec : decode mm.2.1 pc = .ok (.dup2, n)) (hok : okE mm (pc, .dup2, n, v, a, b) = true) (h : stp X cl kn mm (pc, .dup2, n, v, a, b) ls st σ = some (r, σ')) : Snd l X mm pc ls st σ r σ' := by
  obtain rfl : n = 1 := by simpa only [okE, decide_eq_true_eq] using hok
  simp only [stp] at h
  split at h
  · rename_i x y st'
    refine (hk _ _ _ _ _ _ h).step rfl rfl id rfl ?_
    intro p e R s m args below meth c H0 H locs cells slots Q A D cy ad bb la C Hh hl hln hcs kk
    exact lv_dup2_11 C.1 C.2.1 hdec rfl rfl (kk la H locs hl Hh)
  · cases h
set_option maxHeartbeats 1000000 in
theorem sd_ifCond {l : Launch} {X : Option (Nat × (Nat → Int32))} {cl : Nat → List Value → Sg → Rs} {kn : Kn} {mm : MT} {pc n a b : Nat} {v : Int32} {ls : Lc} {st : List Value} {σ : Sg} {r : Option Value} {σ' : Sg} (hk : ∀ (pc : Nat) (ls : Lc) (st : List Value) (τ : Sg) (r : Option Value) (σ' : Sg), kn pc ls st τ = some (r, σ') → Snd l X mm pc ls st τ r σ') {cc : ClassFile.Cond} {off : Int} (hdec : decode mm.2.1 pc = .ok (.ifCond cc off, n)) (hok : okE mm (pc, .ifCond cc off, n, v, a, b) = true) (h : stp X cl kn mm (pc, .ifCond cc off, n, v, a, b) ls st σ = some (r, σ')) : Snd l X mm pc ls st σ r σ' := by
  simp only [okE, Bool.and_eq_true, decide_eq_true_eq] at hok
  obtain ⟨rfl, ht⟩ : n = 3 ∧ (pc : Int) + off = (a : Int) := hok
  simp only [stp] at h
  split at h
  · rename_i x st'
    cases cc
    · simp only at h
      split at h
      · rename_i hc
        refine (hk _ _ _ _ _ _ h).step rfl rfl id rfl ?_
        intro p e R s m args below meth c H0 H locs cells slots Q A D cy ad bb la C Hh hl hln hcs kk
        exact lv_if_eq C.1 C.2.1 hdec ht (fun q => kk la H locs hl Hh) (fun q => absurd hc q)
      · rename_i hc
        refine (hk _ _ _ _ _ _ h).step rfl rfl id rfl ?_
        intro p e R s m args below meth c H0 H locs cells slots Q A D cy ad bb la C Hh hl hln hcs kk
        exact lv_if_eq C.1 C.2.1 hdec ht (fun q => absurd q hc) (fun q => kk la H locs hl Hh)
    · simp only at h
      split at h
      · rename_i hc
        refine (hk _ _ _ _ _ _ h).step rfl rfl id rfl ?_
        intro p e R s m args below meth c H0 H locs cells slots Q A D cy ad bb la C Hh hl hln hcs kk
        exact lv_if_ne C.1 C.2.1 hdec ht (fun q => absurd hc q) (fun q => kk la H locs hl Hh)
      · rename_i hc
        refine (hk _ _ _ _ _ _ h).step rfl rfl id rfl ?_
        intro p e R s m args below meth c H0 H locs cells slots Q A D cy ad bb la C Hh hl hln hcs kk
        exact lv_if_ne C.1 C.2.1 hdec ht (fun q => kk la H locs hl Hh) (fun q => absurd q hc)
    · simp only at h
      split at h
      · rename_i hc
        refine (hk _ _ _ _ _ _ h).step rfl rfl id rfl ?_
        intro p e R s m args below meth c H0 H locs cells slots Q A D cy ad bb la C Hh hl hln hcs kk
        exact lv_if_lt C.1 C.2.1 hdec ht (fun q => kk la H locs hl Hh) (fun q => absurd hc q)
      · rename_i hc
        refine (hk _ _ _ _ _ _ h).step rfl rfl id rfl ?_
        intro p e R s m args below meth c H0 H locs cells slots Q A D cy ad bb la C Hh hl hln hcs kk
        exact lv_if_lt C.1 C.2.1 hdec ht (fun q => absurd q hc) (fun q => kk la H locs hl Hh)
    · simp only at h
      split at h
      · rename_i hc
        refine (hk _ _ _ _ _ _ h).step rfl rfl id rfl ?_
        intro p e R s m args below meth c H0 H locs cells slots Q A D cy ad bb la C Hh hl hln hcs kk
        exact lv_if_ge C.1 C.2.1 hdec ht (fun q => kk la H locs hl Hh) (fun q => absurd hc q)
      · rename_i hc
        refine (hk _ _ _ _ _ _ h).step rfl rfl id rfl ?_
        intro p e R s m args below meth c H0 H locs cells slots Q A D cy ad bb la C Hh hl hln hcs kk
        exact lv_if_ge C.1 C.2.1 hdec ht (fun q => absurd q hc) (fun q => kk la H locs hl Hh)
    · simp only at h
      split at h
      · rename_i hc
        refine (hk _ _ _ _ _ _ h).step rfl rfl id rfl ?_
        intro p e R s m args below meth c H0 H locs cells slots Q A D cy ad bb la C Hh hl hln hcs kk
        exact lv_if_gt C.1 C.2.1 hdec ht (fun q => kk la H locs hl Hh) (fun q => absurd hc q)
      · rename_i hc
        refine (hk _ _ _ _ _ _ h).step rfl rfl id rfl ?_
        intro p e R s m args below meth c H0 H locs cells slots Q A D cy ad bb la C Hh hl hln hcs kk
        exact lv_if_gt C.1 C.2.1 hdec ht (fun q => absurd q hc) (fun q => kk la H locs hl Hh)
    · simp only at h
      split at h
      · rename_i hc
        refine (hk _ _ _ _ _ _ h).step rfl rfl id rfl ?_
        intro p e R s m args below meth c H0 H locs cells slots Q A D cy ad bb la C Hh hl hln hcs kk
        exact lv_if_le C.1 C.2.1 hdec ht (fun q => kk la H locs hl Hh) (fun q => absurd hc q)
      · rename_i hc
        refine (hk _ _ _ _ _ _ h).step rfl rfl id rfl ?_
        intro p e R s m args below meth c H0 H locs cells slots Q A D cy ad bb la C Hh hl hln hcs kk
        exact lv_if_le C.1 C.2.1 hdec ht (fun q => absurd q hc) (fun q => kk la H locs hl Hh)
  · cases h
set_option maxHeartbeats 1000000 in
theorem sd_icmp {l : Launch} {X : Option (Nat × (Nat → Int32))} {cl : Nat → List Value → Sg → Rs} {kn : Kn} {mm : MT} {pc n a b : Nat} {v : Int32} {ls : Lc} {st : List Value} {σ : Sg} {r : Option Value} {σ' : Sg} (hk : ∀ (pc : Nat) (ls : Lc) (st : List Value) (τ : Sg) (r : Option Value) (σ' : Sg), kn pc ls st τ = some (r, σ') → Snd l X mm pc ls st τ r σ') {cc : ClassFile.Cond} {off : Int} (hdec : decode mm.2.1 pc = .ok (.if_icmp cc off, n)) (hok : okE mm (pc, .if_icmp cc off, n, v, a, b) = true) (h : stp X cl kn mm (pc, .if_icmp cc off, n, v, a, b) ls st σ = some (r, σ')) : Snd l X mm pc ls st σ r σ' := by
  simp only [okE, Bool.and_eq_true, decide_eq_true_eq] at hok
  obtain ⟨rfl, ht⟩ : n = 3 ∧ (pc : Int) + off = (a : Int) := hok
  simp only [stp] at h
  split at h
  · rename_i y x st'
    cases cc
    · simp only at h
      split at h
      · rename_i hc
        refine (hk _ _ _ _ _ _ h).step rfl rfl id rfl ?_
        intro p e R s m args below meth c H0 H locs cells slots Q A D cy ad bb la C Hh hl hln hcs kk
        exact lv_icmp_eq C.1 C.2.1 hdec ht (fun q => kk la H locs hl Hh) (fun q => absurd hc q)
      · rename_i hc
        refine (hk _ _ _ _ _ _ h).step rfl rfl id rfl ?_
        intro p e R s m args below meth c H0 H locs cells slots Q A D cy ad bb la C Hh hl hln hcs kk
        exact lv_icmp_eq C.1 C.2.1 hdec ht (fun q => absurd q hc) (fun q => kk la H locs hl Hh)
    · simp only at h
      split at h
      · rename_i hc
        refine (hk _ _ _ _ _ _ h).step rfl rfl id rfl ?_
        intro p e R s m args below meth c H0 H locs cells slots Q A D cy ad bb la C Hh hl hln hcs kk
        exact lv_icmp_ne C.1 C.2.1 hdec ht (fun q => absurd hc q) (fun q => kk la H locs hl Hh)
      · rename_i hc
        refine (hk _ _ _ _ _ _ h).step rfl rfl id rfl ?_
        intro p e R s m args below meth c H0 H locs cells slots Q A D cy ad bb la C Hh hl hln hcs kk
        exact lv_icmp_ne C.1 C.2.1 hdec ht (fun q => kk la H locs hl Hh) (fun q => absurd q hc)
    · simp only at h
      split at h
      · rename_i hc
        refine (hk _ _ _ _ _ _ h).step rfl rfl id rfl ?_
        intro p e R s m args below meth c H0 H locs cells slots Q A D cy ad bb la C Hh hl hln hcs kk
        exact lv_icmp_lt C.1 C.2.1 hdec ht (fun q => kk la H locs hl Hh) (fun q => absurd hc q)
      · rename_i hc
        refine (hk _ _ _ _ _ _ h).step rfl rfl id rfl ?_
        intro p e R s m args below meth c H0 H locs cells slots Q A D cy ad bb la C Hh hl hln hcs kk
        exact lv_icmp_lt C.1 C.2.1 hdec ht (fun q => absurd q hc) (fun q => kk la H locs hl Hh)
    · simp only at h
      split at h
      · rename_i hc
        refine (hk _ _ _ _ _ _ h).step rfl rfl id rfl ?_
        intro p e R s m args below meth c H0 H locs cells slots Q A D cy ad bb la C Hh hl hln hcs kk
        exact lv_icmp_ge C.1 C.2.1 hdec ht (fun q => kk la H locs hl Hh) (fun q => absurd hc q)
      · rename_i hc
        refine (hk _ _ _ _ _ _ h).step rfl rfl id rfl ?_
        intro p e R s m args below meth c H0 H locs cells slots Q A D cy ad bb la C Hh hl hln hcs kk
        exact lv_icmp_ge C.1 C.2.1 hdec ht (fun q => absurd q hc) (fun q => kk la H locs hl Hh)
    · simp only at h
      split at h
      · rename_i hc
        refine (hk _ _ _ _ _ _ h).step rfl rfl id rfl ?_
        intro p e R s m args below meth c H0 H locs cells slots Q A D cy ad bb la C Hh hl hln hcs kk
        exact lv_icmp_gt C.1 C.2.1 hdec ht (fun q => kk la H locs hl Hh) (fun q => absurd hc q)
      · rename_i hc
        refine (hk _ _ _ _ _ _ h).step rfl rfl id rfl ?_
        intro p e R s m args below meth c H0 H locs cells slots Q A D cy ad bb la C Hh hl hln hcs kk
        exact lv_icmp_gt C.1 C.2.1 hdec ht (fun q => absurd q hc) (fun q => kk la H locs hl Hh)
    · simp only at h
      split at h
      · rename_i hc
        refine (hk _ _ _ _ _ _ h).step rfl rfl id rfl ?_
        intro p e R s m args below meth c H0 H locs cells slots Q A D cy ad bb la C Hh hl hln hcs kk
        exact lv_icmp_le C.1 C.2.1 hdec ht (fun q => kk la H locs hl Hh) (fun q => absurd hc q)
      · rename_i hc
        refine (hk _ _ _ _ _ _ h).step rfl rfl id rfl ?_
        intro p e R s m args below meth c H0 H locs cells slots Q A D cy ad bb la C Hh hl hln hcs kk
        exact lv_icmp_le C.1 C.2.1 hdec ht (fun q => absurd q hc) (fun q => kk la H locs hl Hh)
  · cases h
set_option maxHeartbeats 1000000 in
theorem sd_goto {l : Launch} {X : Option (Nat × (Nat → Int32))} {cl : Nat → List Value → Sg → Rs} {kn : Kn} {mm : MT} {pc n a b : Nat} {v : Int32} {ls : Lc} {st : List Value} {σ : Sg} {r : Option Value} {σ' : Sg} (hk : ∀ (pc : Nat) (ls : Lc) (st : List Value) (τ : Sg) (r : Option Value) (σ' : Sg), kn pc ls st τ = some (r, σ') → Snd l X mm pc ls st τ r σ') {off : Int} (hdec : decode mm.2.1 pc = .ok (.goto off, n)) (hok : okE mm (pc, .goto off, n, v, a, b) = true) (h : stp X cl kn mm (pc, .goto off, n, v, a, b) ls st σ = some (r, σ')) : Snd l X mm pc ls st σ r σ' := by
  simp only [okE, Bool.and_eq_true, decide_eq_true_eq] at hok
  have h : kn a ls st σ = some (r, σ') := h
  refine (hk _ _ _ _ _ _ h).step rfl rfl id rfl ?_
  obtain ⟨rfl, ht⟩ : n = 3 ∧ (pc : Int) + off = (a : Int) := hok
  intro p e R s m args below meth c H0 H locs cells slots Q A D cy ad bb la C Hh hl hln hcs kk
  exact lv_goto C.1 C.2.1 hdec ht (kk la H locs hl Hh)
