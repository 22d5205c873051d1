theorem mtT_lt : ∀ e ∈ mtT, e.2.2 < 215 := by decide +kernel
theorem ntT_lt : ∀ e ∈ ntT, e.2.2 < 215 := by decide +kernel
theorem ok_virt {mm : MT} {pc x n a b : Nat} {v : Int32} (hok : okE mm (pc, .invokevirtual x, n, v, a, b) = true) : a < 215 := by
  simp only [okE, Bool.and_eq_true, decide_eq_true_eq] at hok
  exact mtT_lt _ hok.1.2
theorem ok_spec {mm : MT} {pc x n a b : Nat} {v : Int32} (hok : okE mm (pc, .invokespecial x, n, v, a, b) = true) (ha : a ≠ 902) : a < 215 := by
  simp only [okE, Bool.and_eq_true, decide_eq_true_eq] at hok
  obtain ⟨-, hok⟩ := hok
  rw [if_neg ha] at hok
  simp only [Bool.and_eq_true, Bool.or_eq_true, decide_eq_true_eq] at hok
  rcases hok.1 with h | h
  · exact mtT_lt _ h
  · exact ntT_lt _ h
theorem ok_stat {mm : MT} {pc x n a b : Nat} {v : Int32} (hok : okE mm (pc, .invokestatic x, n, v, a, b) = true) (ha : a ≠ 900) (hb : a ≠ 901) : a < 215 := by
  simp only [okE, Bool.and_eq_true, decide_eq_true_eq] at hok
  obtain ⟨-, hok⟩ := hok
  rw [if_neg ha, if_neg hb] at hok
  simp only [Bool.and_eq_true, decide_eq_true_eq] at hok
  exact mtT_lt _ hok.1
set_option maxHeartbeats 1000000 in
theorem stp_sound {l : Launch} {X : Option (Nat × (Nat → Int32))} {cl : Nat → List Value → Sg → Rs} {kn : Kn} {mm : MT} {en : En} {ls : Lc} {st : List Value} {σ : Sg} {r : Option Value} {σ' : Sg} (hk : ∀ (pc : Nat) (ls : Lc) (st : List Value) (τ : Sg) (r : Option Value) (σ' : Sg), kn pc ls st τ = some (r, σ') → Snd l X mm pc ls st τ r σ') (hcl : CallOK l cl)
    (hdec : decode mm.2.1 en.1 = .ok (en.2.1, en.2.2.1)) (hok : okE mm en = true) (h : stp X cl kn mm en ls st σ = some (r, σ')) : Snd l X mm en.1 ls st σ r σ' := by
  obtain ⟨pc, i, n, v, a, b⟩ := en
  cases i with
  | iconst z => exact sd_iconst hk hdec hok h
  | bipush z => exact sd_bipush hk hdec hok h
  | sipush z => exact sd_sipush hk hdec hok h
  | ldc z => exact sd_ldc hk hdec hok h
  | iload z => exact sd_iload hk hdec hok h
  | iload_n z => exact sd_iload_n hk hdec hok h
  | aload z => exact sd_aload hk hdec hok h
  | aload_n z => exact sd_aload_n hk hdec hok h
  | istore z => exact sd_istore hk hdec hok h
  | istore_n z => exact sd_istore_n hk hdec hok h
  | astore z => exact sd_astore hk hdec hok h
  | astore_n z => exact sd_astore_n hk hdec hok h
  | iinc z y => exact sd_iinc hk hdec hok h
  | iadd => exact sd_iadd hk hdec hok h
  | isub => exact sd_isub hk hdec hok h
  | imul => exact sd_imul hk hdec hok h
  | iand => exact sd_iand hk hdec hok h
  | ixor => exact sd_ixor hk hdec hok h
  | idiv => exact sd_idiv hk hdec hok h
  | irem => exact sd_irem hk hdec hok h
  | dup => exact sd_dup hk hdec hok h
  | dup2 => exact sd_dup2 hk hdec hok h
  | ifCond c z => exact sd_ifCond hk hdec hok h
  | if_icmp c z => exact sd_icmp hk hdec hok h
  | goto z => exact sd_goto hk hdec hok h
  | getfield z => exact sd_getfield hk hdec hok h
  | putfield z => exact sd_putfield hk hdec hok h
  | iaload => exact sd_iaload hk hdec hok h
  | baload => exact sd_baload hk hdec hok h
  | iastore => exact sd_iastore hk hdec hok h
  | bastore => exact sd_bastore hk hdec hok h
  | aaload => exact sd_aaload hk hdec hok h
  | aastore => exact sd_aastore hk hdec hok h
  | arraylength => exact sd_alen hk hdec hok h
  | tableswitch d lo hi offs => exact sd_tabsw hk hdec hok h
  | lookupswitch d ps => exact sd_looksw hk hdec hok h
  | invokevirtual z => exact sd_virt hk hcl (ok_virt hok) hdec hok h
  | invokespecial z => exact sd_spec hk hcl (ok_spec hok) hdec hok h
  | invokestatic z => exact sd_stat hk hcl (ok_stat hok) hdec hok h
  | ireturn => exact sd_ireturn hk hdec hok h
  | areturn => exact sd_areturn hk hdec hok h
  | return_ => exact sd_return hk hdec hok h
  | new z => exact sd_new hk hdec hok h
  | newarray z => exact sd_newarray hk hdec hok h
  | anewarray z => exact sd_anewarray hk hdec hok h
  | _ => exact absurd (show false = true from hok) (by decide)
theorem lkE_spec : ∀ {k : List En} {pc : Nat} {en : En}, lkE k pc = some en → en ∈ k ∧ en.1 = pc
  | [], pc, en, h => by cases h
  | e :: es, pc, en, h => by
    unfold lkE at h
    split at h
    · rename_i he
      cases h
      exact ⟨List.mem_cons_self, he⟩
    · obtain ⟨h1, h2⟩ := lkE_spec h
      exact ⟨List.mem_cons_of_mem _ h1, h2⟩
theorem sl_cat : ∀ {vs : List Value}, (∀ v ∈ vs, v.category = 1) → lg_sl vs = vs.map Slot.val
  | [], _ => rfl
  | v :: vs, h => by
    have h1 : v.category = 1 := h v List.mem_cons_self
    have h2 := sl_cat (vs := vs) (fun w hw => h w (List.mem_cons_of_mem _ hw))
    unfold lg_sl at h2 ⊢
    rw [List.flatMap_cons, h2, if_neg (by omega)]
    rfl
theorem entL_len {g : MT} {as : List Value} (h : as.length ≤ g.2.2.1) : (entL g as).length = g.2.2.1 := by
  simp [entL]; omega
theorem LV.entry {g : MT} {as : List Value} {ad : Nat → Nat} {N : Nat} (h : as.length ≤ g.2.2.1) (hall : as.all (oka N) = true) : LV ad 0 ((lg_sl (as.map (vz ad 0)) ++ List.replicate (g.2.2.1 - (lg_sl (as.map (vz ad 0))).length) Slot.unset).toArray) (entL g as) := by
  have hcat : ∀ v ∈ as.map (vz ad 0), v.category = 1 := by
    intro v hv
    obtain ⟨w, hw, rfl⟩ := List.mem_map.mp hv
    exact vz_cat (oka_okv (List.all_eq_true.mp hall w hw))
  have hsl := sl_cat hcat
  have hlen : (lg_sl (as.map (vz ad 0))).length = as.length := by rw [hsl]; simp
  have he := lv_entry (as.map (vz ad 0)) (n := g.2.2.1) (by rw [hlen]; exact h)
  refine ⟨by rw [he.1, entL_len h], he.2.1, fun i v hv => ?_⟩
  have hi : i < as.length := by
    rcases Nat.lt_or_ge i as.length with q | q
    · exact q
    · unfold entL at hv
      rw [List.getElem?_append_right (by simpa using q)] at hv
      have := List.mem_of_getElem? hv
      exact absurd (List.eq_of_mem_replicate this) (by simp)
  have hv2 : as[i]? = some v := by
    unfold entL at hv
    rw [List.getElem?_append_left (by simpa using hi), List.getElem?_map] at hv
    cases hz : as[i]? with
    | none => rw [hz] at hv; cases hv
    | some w => rw [hz] at hv; cases hv; rfl
  refine ⟨?_, hcat _ (List.mem_map.mpr ⟨v, List.mem_of_getElem? hv2, rfl⟩)⟩
  rw [List.getElem?_toArray, List.getElem?_append_left (by rw [hlen]; exact hi), hsl]
  simp [hv2]
set_option maxHeartbeats 1000000 in
theorem metO {l : Launch} {f : Nat} {mg : MT} {as : List Value} {σ τ : Sg} {rv : Option Value} (hmg : mT f = some mg) (hg : f < 215) (hlen : as.length = mg.2.2.2.2.2.1) (hall : as.all (oka σ.1) = true) (hw : wfG σ) (S : Snd l none mg 0 (entL mg as) [] σ rv τ) (D : va_G) (cy : Nat → ClassId) (ad : Nat → Nat) (sz : Nat) :
    Met l mg.1 (mW mg) (rmO mg (τ.1 - σ.1) (τ.2.1 - σ.2.1)) (PcO D cy ad sz σ as) (QcO D cy ad sz σ rv τ) (τ.1 - σ.1) (τ.2.1 - σ.2.1) (va_A (wsO cy ad σ) sz) := by
  obtain ⟨hMW, hMX⟩ := mwAll hmg hg
  obtain ⟨x1, x2, x3, x4, x5⟩ := MX_spec hMX
  refine Met.ofW (cc := mg.2.1) (maxL := mg.2.2.1) (ret := mg.2.2.2.1) x2 rfl ?_
  intro p e s m args below meth c s₁ B hml hv
  obtain ⟨rfl, hsz, hP, hK, hD0⟩ := hv
  have hts0 := atoms_spec (ws := mW mg) B.pre
  subst hsz
  have hD := hD0.self (sz := s.heap.size)
  have hle : as.length ≤ mg.2.2.1 := by rw [hlen]; exact hmlP hmg
  have C : Ctx p (headSpec (mW mg) (rmO mg (τ.1 - σ.1) (τ.2.1 - σ.2.1))).room s m (as.map (vz ad 0)).toArray meth c mg :=
    ⟨B.exec, B.bytes, B.returns, hml, by rw [← x1]; exact findClass_of_methodNamed B.named, fun w h => hts0 w (List.mem_cons_of_mem _ h), Nat.le_refl _, Nat.le_refl _, B.notSynchronized, fun h2 => (name_of_methodNamed B.named B.method).1.trans (hMW.2.2.2.2.2 h2).1⟩
  rw [lg_entry_eq]
  refine (S hw).2.2.2.2 p e _ s m _ below meth c s.heap s.heap [] 0 0 _ (va_A (wsO cy ad σ) s.heap.size) D cy ad 0 _ C ⟨hP, hD, hK, va_S.rf, fun q h => Or.inr h, fun L xs h => by cases h⟩ (LV.entry hle hall) (entL_len hle) (by show 0 + _ ≤ τ.1 - σ.1; omega) (by show 0 + _ ≤ τ.2.1 - σ.2.1; omega) ?_
  intro ad' H' locs' pc' la' h1 Hh' hR
  rw [Nat.zero_add, Nat.zero_add]
  have hQ : ∀ t : State, t.heap = H' → QcO D cy ad s.heap.size σ rv τ (as.map (vz ad 0)).toArray s (.returned (rv.map (vz ad' 0))) t := fun t ht => ⟨⟨ad', rfl, h1, by rw [ht]; exact Hh'.1, Hh'.2.1⟩, Hh'.2.2.2.1.F ht⟩
  match rv, hR, hQ with
  | none, hR, hQ => exact W.vret C.1 C.2.1 (C.2.2.1.trans hR.1) (fun t ht hW => hQ t ht) Hh'.2.2.2.1.2.2 hR.2 C.2.2.2.2.2.2.2.2.1
  | some (.int x), hR, hQ =>
    rcases hR.1 with hr | ⟨hr, hx⟩
    · exact W.iret C.1 C.2.1 (C.2.2.1.trans hr) (fun t ht hW => hQ t ht) Hh'.2.2.2.1.2.2 hR.2 C.2.2.2.2.2.2.2.2.1
    · exact W.zret C.1 C.2.1 (C.2.2.1.trans hr) (bo_fit hx).1 (fun t ht hW => hQ t ht) Hh'.2.2.2.1.2.2 hR.2 C.2.2.2.2.2.2.2.2.1
  | some (.ref q), hR, hQ =>
    obtain ⟨⟨nm, hr⟩, hd, -⟩ := hR
    exact W.aret C.1 C.2.1 (C.2.2.1.trans hr) (Or.inl ⟨nm, rfl⟩) (Or.inr ⟨_, rfl⟩) (fun t ht hW => hQ t ht) Hh'.2.2.2.1.2.2 hd C.2.2.2.2.2.2.2.2.1
/-- WHAT THE FLAT MACHINE DOES, THE MACHINE DOES -/
theorem run_sound (l : Launch) : ∀ (n : Nat) (X : Option (Nat × (Nat → Int32))) (f : Nat) (mm : MT) (pc : Nat) (ls : Lc) (st : List Value) (σ : Sg) (r : Option Value) (σ' : Sg), mT f = some mm → run n X f pc ls st σ = some (r, σ') → Snd l X mm pc ls st σ r σ' := by
  intro n
  induction n with
  | zero =>
    intro X f mm pc ls st σ r σ' hm h
    cases h
  | succ n ih =>
    intro X f mm pc ls st σ r σ' hm h
    unfold run at h
    rw [hm] at h
    dsimp only at h
    split at h
    · cases h
    · rename_i en hen
      obtain ⟨h1, rfl⟩ := lkE_spec hen
      obtain ⟨hdec, hok⟩ := okAll hm en h1
      refine stp_sound (fun pc ls st τ r σ' h => ih X f mm pc ls st τ r σ' hm h) ?_ hdec hok h
      intro g mg as σ rv τ hmg hg hlen hall hcall hw
      dsimp only at hcall
      rw [hmg] at hcall
      dsimp only at hcall
      have S := ih none g mg 0 (entL mg as) [] σ rv τ hmg hcall
      obtain ⟨s1, s2, s3, s4, -⟩ := S hw
      exact ⟨s1, s2, s3, s4, fun D cy ad sz => metO hmg hg hlen hall hw S D cy ad sz⟩
