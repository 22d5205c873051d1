/-! calls -/
def mW (g : MT) : List Cond := Cond.code g.1 g.2.1 g.2.2.1 g.2.2.2.1 :: WS
def rmO (g : MT) (mc ms : Nat) : Room := { frames := g.2.2.2.2.2.2.1, cells := mc, slots := ms, locals := g.2.2.2.2.2.2.2.1 }
def PcO (D : va_G) (cy : Nat → ClassId) (ad : Nat → Nat) (sz : Nat) (σ : Sg) (as : List Value) : Array Value → State → Prop := va_Pc (as.map (vz ad 0)) (fun U => U.heap.size = sz ∧ va_P D vwCl (wsO cy ad σ) U.heap ∧ KO D cy U ∧ va_D (fun _ => True) (wsO cy ad σ))
def QcO (D : va_G) (cy : Nat → ClassId) (ad : Nat → Nat) (sz : Nat) (σ : Sg) (rv : Option Value) (τ : Sg) : Array Value → State → Outcome → State → Prop := fun _ st oc t => (∃ ad' : Nat → Nat, oc = .returned (rv.map (vz ad' 0)) ∧ (∀ k, k < σ.1 → ad' k = ad k) ∧ va_P D vwCl (wsO cy ad' τ) t.heap ∧ va_D (va_A (wsO cy ad σ) sz) (wsO cy ad' τ)) ∧ va_F (va_A (wsO cy ad σ) sz) st t
def CallOK (l : Launch) (cl : Nat → List Value → Sg → Rs) : Prop := ∀ (g : Nat) (mg : MT) (as : List Value) (σ : Sg) (rv : Option Value) (τ : Sg), mT g = some mg → g < 215 → as.length = mg.2.2.2.2.2.1 → as.all (oka σ.1) = true → cl g as σ = some (rv, τ) → wfG σ →
  (wfG τ ∧ σ.1 ≤ τ.1 ∧ σ.2.1 ≤ τ.2.1 ∧ (∃ pc', RetO mg pc' rv τ.1) ∧ ∀ (D : va_G) (cy : Nat → ClassId) (ad : Nat → Nat) (sz : Nat), Met l mg.1 (mW mg) (rmO mg (τ.1 - σ.1) (τ.2.1 - σ.2.1)) (PcO D cy ad sz σ as) (QcO D cy ad sz σ rv τ) (τ.1 - σ.1) (τ.2.1 - σ.2.1) (va_A (wsO cy ad σ) sz))
theorem PcO_blind (D : va_G) (cy : Nat → ClassId) (ad : Nat → Nat) (sz : Nat) (σ : Sg) (as : List Value) : FrameBlind (PcO D cy ad sz σ as) := by
  intro a U g mk q
  obtain ⟨q0, q1, qP, qK, qD⟩ := q
  exact ⟨q0, q1, qP, KO.blind (V := U.calling g mk a) rfl qK, qD⟩
theorem callO {p : Program} {l : Launch} {e : Env} {R : Room} {s : State} {m : MethodId} {args : Array Value} {below : List Frame} {meth : Method} {c : Code} {H0 H : Heap} {locs : List Loc} {cells slots mc ms pc : Nat} {Q : State → Prop} {la : Array Slot} {st0 rest : List Value} {A : Nat → Prop} {D : va_G} {cy : Nat → ClassId} {ad : Nat → Nat} {σ τ : Sg} {rv : Option Value} {a : Array Value} {free : Addr → Prop}
    (hr : va_Run p l e R s m args below meth c H locs cells slots mc ms (F0 m pc la st0) rest (QcO D cy ad H.size σ rv τ a) free) (hS : va_S A H0 H locs) (hA : ∀ q, va_A (wsO cy ad σ) H.size q → A q) (hf : ∀ q, free q → A q)
    (kk : ∀ (ad' : Nat → Nat) (H1 : Heap) (locs1 : List Loc), (∀ k, k < σ.1 → ad' k = ad k) → va_P D vwCl (wsO cy ad' τ) H1 → va_D A (wsO cy ad' τ) → va_S A H0 H1 locs1 → W p l e R s m args below meth c H1 locs1 (cells + mc) (slots + ms) Q (F0 m (pc + 3) la ((rv.map (vz ad' 0)).toList ++ rest))) : W p l e R s m args below meth c H locs cells slots Q (F0 m pc la st0) := by
  intro T hT X
  obtain ⟨v, st₀, t, T', L, h0, X', hL, e1, e2, ⟨⟨ad', hv, h1, hP, hD⟩, hz, hk⟩, st⟩ := hr T hT X
  cases hv
  rw [h0] at hz hk
  obtain ⟨t2, a1, b1⟩ := kk ad' T'.heap (locs ++ L) h1 (by rw [e1]; exact hP) (hD.weaken (fun k q _ hq => hA _ hq))
    ⟨Nat.le_trans hS.1 (by rw [e1]; exact hz), fun q h1 h2 => by rw [e1, hk q (Nat.lt_of_lt_of_le h1 hS.1) (fun z => h2 (hA q z))]; exact hS.2.1 q h1 h2, fun q hq => by
      rcases List.mem_append.mp hq with h | h
      · exact hS.2.2 q h
      · exact hf _ (hL q h)⟩ T' rfl X'
  exact ⟨t2, st t2 a1, b1⟩
theorem goodO (own : String) (g : MT) (pre : List Cond) (hp : ∀ w ∈ pre, w ∈ WS) (hc : Cond.code g.1 g.2.1 g.2.2.1 g.2.2.2.1 ∈ lw_tbl) : GoodIn WS (pre ++ mW g) := by
  intro w hw
  have hm : w ∈ WS := by
    rcases List.mem_append.mp hw with h | h
    · exact hp w h
    · rcases List.mem_cons.mp h with h | h
      · rw [h]; exact inWS hc rfl
      · exact h
  exact ⟨hm, good_of_word (List.mem_filter.mp hm).2⟩
theorem MX_spec {g : MT} (h : MX g = true) : g.1.cls = RC g.2.2.2.2.1 ∧ plainName g.1.cls = true ∧ g.1.cls ≠ "java/lang/invoke/MethodHandle" ∧ g.1.cls ≠ "java/lang/invoke/VarHandle" ∧ (parseMethodDescriptor g.1.desc).map (fun d => d.parameters.length) = some (if g.2.2.2.2.2.2.2.2 = 0 then g.2.2.2.2.2.1 else g.2.2.2.2.2.1 - 1) := by
  simp only [MX, Bool.and_eq_true, decide_eq_true_eq] at h
  exact ⟨h.1.1.1.1, h.1.1.1.2, h.1.1.2, h.1.2, h.2⟩
theorem Hld.A {D : va_G} {cy : Nat → ClassId} {ad : Nat → Nat} {A : Nat → Prop} {H0 H : Heap} {locs : List Loc} {σ : Sg} {s : State} {X : Option (Nat × (Nat → Int32))} {b : Nat} (h : Hld D cy ad A H0 H locs σ s X b) : ∀ q, va_A (wsO cy ad σ) H.size q → A q := by
  rintro q (⟨k, e, hk⟩ | hq)
  · exact h.2.1.2 k _ hk
  · exact h.2.2.2.2.1 q (Nat.le_trans h.2.2.2.1.1 hq)
theorem args_vz {ad : Nat → Nat} {b N : Nat} : ∀ {as : List Value}, as.all (oka N) = true → as.map (vz ad b) = as.map (vz ad 0)
  | [], _ => rfl
  | v :: st, h => by
    simp only [List.all_cons, Bool.and_eq_true] at h
    simp only [List.map_cons, vz_oka (b := b) (b' := 0) h.1, args_vz h.2]
theorem ret_vz {mm : MT} {pc N : Nat} {r : Option Value} (h : RetO mm pc r N) (ad : Nat → Nat) (b : Nat) : (r.map (vz ad 0)).toList = r.toList.map (vz ad b) := by
  match r, h with
  | none, _ => rfl
  | some (.int x), _ => rfl
  | some (.ref q), _ => rfl
/-- what a call does, put before what follows it -/
theorem Snd.call {l : Launch} {X : Option (Nat × (Nat → Int32))} {mm mg : MT} {pc : Nat} {ls : Lc} {st rest : List Value} {σ τ : Sg} {rv r : Option Value} {σ' : Sg} (hS : Snd l X mm (pc + 3) ls (rv.toList ++ rest) τ r σ')
    (hC : wfG σ → (wfG τ ∧ σ.1 ≤ τ.1 ∧ σ.2.1 ≤ τ.2.1 ∧ (∃ pc', RetO mg pc' rv τ.1))) (hok : okl σ.1 ls = true) (hrest : rest.all (okv σ.1) = true)
    (hW : wfG σ → ∀ (p : Program) (e : Env) (R : Room) (s : State) (m : MethodId) (args : Array Value) (below : List Frame) (meth : Method) (c : Code) (H0 H : Heap) (locs : List Loc) (cells slots : Nat) (A : Nat → Prop) (D : va_G) (cy : Nat → ClassId) (ad : Nat → Nat) (b : Nat) (la : Array Slot),
      Ctx p R s m args meth c mm → Hld D cy ad A H0 H locs σ s X b → LV ad b la ls → ls.length = mm.2.2.1 → cells + (τ.1 - σ.1) ≤ R.cells → slots + (τ.2.1 - σ.2.1) ≤ R.slots →
      ∃ (a : Array Value) (free : Addr → Prop), (∀ q, free q → A q) ∧ va_Run p l e R s m args below meth c H locs cells slots (τ.1 - σ.1) (τ.2.1 - σ.2.1) (F0 m pc la (st.map (vz ad b))) (rest.map (vz ad b)) (QcO D cy ad H.size σ rv τ a) free) : Snd l X mm pc ls st σ r σ' := by
  intro hw
  obtain ⟨c1, c2, c3, pr, hret⟩ := hC hw
  obtain ⟨a1, a2, a3, a4, k⟩ := hS c1
  refine ⟨a1, Nat.le_trans c2 a2, Nat.le_trans c3 a3, a4, ?_⟩
  intro p e R s m args below meth c H0 H locs cells slots Q A D cy ad b la C Hh hl hln hc hs hQ
  obtain ⟨a, free, hf, hrun⟩ := hW hw p e R s m args below meth c H0 H locs cells slots A D cy ad b la C Hh hl hln (by omega) (by omega)
  refine callO hrun Hh.2.2.2.1 Hh.A hf (fun ad' H1 locs1 h1 hP hD hS1 => ?_)
  rw [ret_vz hret ad' b, ← vz_all h1 hrest, ← List.map_append]
  refine k p e R s m args below meth c H0 H1 locs1 _ _ Q A D cy ad' b la C ⟨hP, hD, Hh.2.2.1, hS1, Hh.2.2.2.2⟩ (hl.moved hok h1) hln (by omega) (by omega) ?_
  intro ad2 H2 locs2 pc2 la2 h2 Hh2 hR2
  have := hQ ad2 H2 locs2 pc2 la2 (fun k hk => (h2 k (Nat.lt_of_lt_of_le hk c2)).trans (h1 k hk)) Hh2 hR2
  rw [show cells + (τ.1 - σ.1) + (σ'.1 - τ.1) = cells + (σ'.1 - σ.1) by omega, show slots + (τ.2.1 - σ.2.1) + (σ'.2.1 - τ.2.1) = slots + (σ'.2.1 - σ.2.1) by omega]
  exact this
theorem mtAll (P : MT → Bool) (h : (mT0 ++ (mT1 ++ (mT2 ++ (mT3 ++ (mT4 ++ (mT5 ++ (mT6 ++ mT7))))))).all P = true) {f : Nat} {mm : MT} (hf : mT f = some mm) : P mm = true := by
  have hm : mm ∈ mT0 ++ (mT1 ++ (mT2 ++ (mT3 ++ (mT4 ++ (mT5 ++ (mT6 ++ mT7)))))) := by
    unfold mT at hf
    simp only [List.mem_append]
    split at hf
    · exact Or.inl (List.mem_of_getElem? hf)
    · exact Or.inr (Or.inl (List.mem_of_getElem? hf))
    · exact Or.inr (Or.inr (Or.inl (List.mem_of_getElem? hf)))
    · exact Or.inr (Or.inr (Or.inr (Or.inl (List.mem_of_getElem? hf))))
    · exact Or.inr (Or.inr (Or.inr (Or.inr (Or.inl (List.mem_of_getElem? hf)))))
    · exact Or.inr (Or.inr (Or.inr (Or.inr (Or.inr (Or.inl (List.mem_of_getElem? hf))))))
    · exact Or.inr (Or.inr (Or.inr (Or.inr (Or.inr (Or.inr (Or.inl (List.mem_of_getElem? hf)))))))
    · exact Or.inr (Or.inr (Or.inr (Or.inr (Or.inr (Or.inr (Or.inr (List.mem_of_getElem? hf)))))))
    · cases hf
  exact List.all_eq_true.mp h mm hm
theorem hnaP {f : Nat} {mm : MT} (hf : mT f = some mm) (_ : f < 215) (hk : 0 < mm.2.2.2.2.2.2.2.2) : 0 < mm.2.2.2.2.2.1 := by
  have := mtAll (fun q => decide (0 < q.2.2.2.2.2.2.2.2 → 0 < q.2.2.2.2.2.1)) (by decide +kernel) hf
  exact of_decide_eq_true this hk
theorem hclP {f : Nat} {mm : MT} (hf : mT f = some mm) (_ : f < 215) (hk : 0 < mm.2.2.2.2.2.2.2.2) : mm.2.2.2.2.1 < 10 := by
  have := mtAll (fun q => decide (0 < q.2.2.2.2.2.2.2.2 → q.2.2.2.2.1 < 10)) (by decide +kernel) hf
  exact of_decide_eq_true this hk
theorem hmlP {f : Nat} {mm : MT} (hf : mT f = some mm) : mm.2.2.2.2.2.1 ≤ mm.2.2.1 := by
  have := mtAll (fun q => decide (q.2.2.2.2.2.1 ≤ q.2.2.1)) (by decide +kernel) hf
  exact of_decide_eq_true this
set_option maxHeartbeats 1000000 in
theorem sd_virt {l : Launch} {X : Option (Nat × (Nat → Int32))} {cl : Nat → List Value → Sg → Rs} {kn : Kn} {mm : MT} {pc n a b : Nat} {v : Int32} {ls : Lc} {st : List Value} {σ : Sg} {r : Option Value} {σ' : Sg} (hk : ∀ (pc : Nat) (ls : Lc) (st : List Value) (τ : Sg) (r : Option Value) (σ' : Sg), kn pc ls st τ = some (r, σ') → Snd l X mm pc ls st τ r σ') {x : Nat} (hcl : CallOK l cl) (hg : a < 215) (hdec : decode mm.2.1 pc = .ok (.invokevirtual x, n)) (hok : okE mm (pc, .invokevirtual x, n, v, a, b) = true) (h : stp X cl kn mm (pc, .invokevirtual x, n, v, a, b) ls st σ = some (r, σ')) : Snd l X mm pc ls st σ r σ' := by
  simp only [okE, Bool.and_eq_true, decide_eq_true_eq] at hok
  obtain ⟨⟨rfl, hmt⟩, hG⟩ := hok
  simp only [stp] at h
  split at h
  · rename_i g hmg
    rw [hmg] at hG
    simp only [okG, Bool.and_eq_true, decide_eq_true_eq] at hG
    obtain ⟨hMW, hMX⟩ := mwAll hmg hg
    obtain ⟨x1, x2, x3, x4, x5⟩ := MX_spec hMX
    split at h
    · rename_i rr rest hst
      split at h
      · rename_i hc
        obtain ⟨hc1, hc2, hc3, hc4, hc5⟩ := hc
        split at h
        · rename_i rv τ hcall
          have hlen : g.2.2.2.2.2.1 - 1 < st.length := by
            have := congrArg List.length hst
            simp at this
            omega
          have hna : g.2.2.2.2.2.1 = 0 ∨ 0 < g.2.2.2.2.2.1 := by omega
          have hpos : 0 < g.2.2.2.2.2.1 := hnaP hmg hg (by omega)
          have htk : (st.take (g.2.2.2.2.2.1 - 1)).length = g.2.2.2.2.2.1 - 1 := by rw [List.length_take]; omega
          have hall : (Value.ref rr :: (st.take (g.2.2.2.2.2.1 - 1)).reverse).all (oka σ.1) = true := by
            simp only [List.all_cons, List.all_reverse, hc3, Bool.and_true]
            exact decide_eq_true hc2.1
          have hCO := hcl a g _ σ rv τ hmg hg (by simp [htk]; omega) hall hcall
          refine Snd.call (rest := rest) (mg := g) (hk _ _ _ _ _ _ h) (fun hw => ⟨(hCO hw).1, (hCO hw).2.1, (hCO hw).2.2.1, (hCO hw).2.2.2.1⟩) hc4 hc5 ?_
          intro hw p e R s m args below meth c H0 H locs cells slots A D cy ad bb la C Hh hl hln hcc hss
          have hM := (hCO hw).2.2.2.2 D cy ad H.size
          refine ⟨(Value.ref (ad rr) :: (st.take (g.2.2.2.2.2.1 - 1)).reverse.map (vz ad 0)).toArray, va_A (wsO cy ad σ) H.size, Hh.A, ?_⟩
          have hcls : g.2.2.2.2.1 < 10 := hclP hmg hg (by omega)
          exact va_runV (As := (st.take (g.2.2.2.2.2.1 - 1)).reverse.map (vz ad 0)) (b := ad rr) ⟨C.1, C.2.1, C.2.2.2.1, C.2.2.2.2.1, C.2.2.2.2.2.1⟩ hM
            (cwV (C := RC g.2.2.2.2.1) (g.2.2.2.2.2.1 - 1) C.2.2.2.2.2.1 (goodO "" g _ (by
              intro w hw
              simp only [List.mem_cons, List.not_mem_nil, or_false] at hw
              have hy : mtY a = g.1 := by unfold mtY; rw [hmg]; rfl
              rcases hw with rfl | rfl | rfl | rfl
              · have := mtT_ok _ hmt
                simp only [hy] at this
                exact inWS this rfl
              · exact inWS (hMW.2.2.2.1 (by omega)) rfl
              · rw [← x1]; exact inWS (hMW.2.2.2.2.1 hG.1.1) rfl
              · rw [← x1]; exact inWS hMW.2.1 rfl) hMW.1) rfl rfl rfl ⟨x1, x3, x4, by rw [x5, if_neg (by omega)]⟩ ⟨Nat.le_trans hG.1.2 C.2.2.2.2.2.2.1, Nat.le_trans hG.2 C.2.2.2.2.2.2.2.1⟩)
            ⟨PcO_blind _ _ _ _ _ _, va_recv Hh.2.2.1.1 Hh.1 (vwC _ hcls) (ws_obj hc2 hcls), fun U hU hW => ⟨rfl, by rw [hU], by rw [hU]; exact Hh.1, KO.warm hW Hh.2.2.1, Hh.2.1.weaken (fun _ _ _ _ => trivial)⟩⟩
            rfl (by rw [List.length_map, List.length_reverse, htk]) (hl.1.trans hln) (by
              show st.map (vz ad bb) = _
              rw [← args_vz (b := bb) (N := σ.1) (by rw [List.all_reverse]; exact hc3), List.map_reverse, List.reverse_reverse]
              rw [show Value.ref (ad rr) :: rest.map (vz ad bb) = (Value.ref rr :: rest).map (vz ad bb) from rfl, ← List.map_append, ← hst, List.take_append_drop]) (lv_room (by rw [cat_all hc5]; exact hc1)) hdec ⟨hcc, hss⟩
        · cases h
      · cases h
    · cases h
  · cases h
set_option maxHeartbeats 1000000 in
theorem sd_spec {l : Launch} {X : Option (Nat × (Nat → Int32))} {cl : Nat → List Value → Sg → Rs} {kn : Kn} {mm : MT} {pc n a b : Nat} {v : Int32} {ls : Lc} {st : List Value} {σ : Sg} {r : Option Value} {σ' : Sg} (hk : ∀ (pc : Nat) (ls : Lc) (st : List Value) (τ : Sg) (r : Option Value) (σ' : Sg), kn pc ls st τ = some (r, σ') → Snd l X mm pc ls st τ r σ') {x : Nat} (hcl : CallOK l cl) (hg : a ≠ 902 → a < 215) (hdec : decode mm.2.1 pc = .ok (.invokespecial x, n)) (hok : okE mm (pc, .invokespecial x, n, v, a, b) = true) (h : stp X cl kn mm (pc, .invokespecial x, n, v, a, b) ls st σ = some (r, σ')) : Snd l X mm pc ls st σ r σ' := by
  simp only [okE, Bool.and_eq_true, decide_eq_true_eq] at hok
  obtain ⟨rfl, hok⟩ := hok
  simp only [stp] at h
  split at h
  · rename_i ha
    rw [if_pos ha] at hok
    simp only [Bool.and_eq_true, decide_eq_true_eq] at hok
    obtain ⟨⟨hoi, hF⟩, hQ⟩ := hok
    split at h
    · rename_i rr rest
      split at h
      · rename_i hc
        have hr0 : rest = [] := List.eq_nil_of_length_eq_zero (by omega)
        subst hr0
        refine (hk _ _ _ _ _ _ h).step rfl rfl id rfl ?_
        intro p e R s m args below meth c H0 H locs cells slots Q A D cy ad bb la C Hh hl hln hcs kk
        exact W.objInit C.1 C.2.1 C.2.2.2.2.1 (C.2.2.2.2.2.1 _ (inWS (oiT_ok _ hoi) rfl)) (C.2.2.2.2.2.1 _ (inWS ww_oin rfl)) (C.2.2.2.2.2.1 _ (inWS ww_oco rfl)) rfl (by rw [C.2.2.2.1]; exact hl.1.trans hln) rfl hdec (Nat.le_trans hF C.2.2.2.2.2.2.1) (Nat.le_trans hQ C.2.2.2.2.2.2.2.1) (kk la H locs hl Hh)
      · cases h
    · cases h
  rename_i hna
  rw [if_neg hna] at hok
  have hg := hg hna
  simp only [Bool.and_eq_true, Bool.or_eq_true, decide_eq_true_eq] at hok
  obtain ⟨hmt, hG⟩ := hok
  split at h
  · rename_i g hmg
    rw [hmg] at hG
    simp only [okG, Bool.and_eq_true, decide_eq_true_eq] at hG
    obtain ⟨hMW, hMX⟩ := mwAll hmg hg
    obtain ⟨x1, x2, x3, x4, x5⟩ := MX_spec hMX
    split at h
    · rename_i rr rest hst
      split at h
      · rename_i hc
        obtain ⟨hc1, hc2, hc3, hc4, hc5⟩ := hc
        split at h
        · rename_i rv τ hcall
          have hlen : g.2.2.2.2.2.1 - 1 < st.length := by
            have := congrArg List.length hst
            simp at this
            omega
          have hna : g.2.2.2.2.2.1 = 0 ∨ 0 < g.2.2.2.2.2.1 := by omega
          have hpos : 0 < g.2.2.2.2.2.1 := hnaP hmg hg (by omega)
          have htk : (st.take (g.2.2.2.2.2.1 - 1)).length = g.2.2.2.2.2.1 - 1 := by rw [List.length_take]; omega
          have hall : (Value.ref rr :: (st.take (g.2.2.2.2.2.1 - 1)).reverse).all (oka σ.1) = true := by
            simp only [List.all_cons, List.all_reverse, hc3, Bool.and_true]
            exact decide_eq_true hc2.1
          have hCO := hcl a g _ σ rv τ hmg hg (by simp [htk]; omega) hall hcall
          refine Snd.call (rest := rest) (mg := g) (hk _ _ _ _ _ _ h) (fun hw => ⟨(hCO hw).1, (hCO hw).2.1, (hCO hw).2.2.1, (hCO hw).2.2.2.1⟩) hc4 hc5 ?_
          intro hw p e R s m args below meth c H0 H locs cells slots A D cy ad bb la C Hh hl hln hcc hss
          have hM := (hCO hw).2.2.2.2 D cy ad H.size
          refine ⟨(Value.ref (ad rr) :: (st.take (g.2.2.2.2.2.1 - 1)).reverse.map (vz ad 0)).toArray, va_A (wsO cy ad σ) H.size, Hh.A, ?_⟩
          have hy : mtY a = g.1 := by unfold mtY; rw [hmg]; rfl
          have hGI : GoodIn WS (mW g) := goodO "" g [] (fun w h => absurd h List.not_mem_nil) hMW.1
          have hini : (Cond.initialized g.1.cls).before args s = true := C.2.2.2.2.2.1 _ (inWS hMW.2.1 rfl)
          have hins : (Cond.instanceMethod g.1).before args s = true := C.2.2.2.2.2.1 _ (inWS (hMW.2.2.2.1 (by omega)) rfl)
          have hnm := hMW.2.2.2.2.2 hG.1.1
          have hd : g.1.cls ≠ "java/lang/invoke/MethodHandle" ∧ g.1.cls ≠ "java/lang/invoke/VarHandle" ∧ (parseMethodDescriptor g.1.desc).map (fun d => d.parameters.length) = some (g.2.2.2.2.2.1 - 1) := ⟨x3, x4, by rw [x5, if_neg (by omega)]⟩
          have hR : (rmO g (τ.1 - σ.1) (τ.2.1 - σ.2.1)).frames + 1 ≤ R.frames ∧ 8 + (g.2.2.1 + 11) + (rmO g (τ.1 - σ.1) (τ.2.1 - σ.2.1)).locals ≤ R.locals := ⟨Nat.le_trans hG.1.2 C.2.2.2.2.2.2.1, Nat.le_trans hG.2 C.2.2.2.2.2.2.2.1⟩
          have hpre : PreS s H (PcO D cy ad H.size σ (.ref rr :: (st.take (g.2.2.2.2.2.1 - 1)).reverse)) (Value.ref (ad rr) :: (st.take (g.2.2.2.2.2.1 - 1)).reverse.map (vz ad 0)) := ⟨PcO_blind _ _ _ _ _ _, fun U hU hW => ⟨rfl, by rw [hU], by rw [hU]; exact Hh.1, KO.warm hW Hh.2.2.1, Hh.2.1.weaken (fun _ _ _ _ => trivial)⟩⟩
          have hstk : (F0 m pc la (st.map (vz ad bb))).stack = ((st.take (g.2.2.2.2.2.1 - 1)).reverse.map (vz ad 0)).reverse ++ .ref (ad rr) :: rest.map (vz ad bb) := by
            show st.map (vz ad bb) = _
            rw [← args_vz (b := bb) (N := σ.1) (by rw [List.all_reverse]; exact hc3), List.map_reverse, List.reverse_reverse]
            rw [show Value.ref (ad rr) :: rest.map (vz ad bb) = (Value.ref rr :: rest).map (vz ad bb) from rfl, ← List.map_append, ← hst, List.take_append_drop]
          have hwn : mW g = Cond.code g.1 g.2.1 g.2.2.1 none :: WS := by unfold mW; rw [hnm.2]
          rcases hmt with hmt | hmt
          · have hlk := mtT_ok _ hmt
            simp only [hy] at hlk
            exact va_runI (As := (st.take (g.2.2.2.2.2.1 - 1)).reverse.map (vz ad 0)) (b := ad rr) ⟨C.1, C.2.1, C.2.2.2.1, C.2.2.2.2.1, C.2.2.2.2.2.1⟩ hM
              (cwI (g.2.2.2.2.2.1 - 1) C.2.2.2.2.2.1 hGI hwn rfl rfl hini (C.2.2.2.2.2.1 _ (inWS hlk rfl)) hins hnm.1 hd hR) hpre rfl (by rw [List.length_map, List.length_reverse, htk]) (hl.1.trans hln) hstk (lv_room (by rw [cat_all hc5]; exact hc1)) hdec ⟨hcc, hss⟩
          · have hlk := Hh.2.2.1.2.2.2 _ hmt
            simp only [hy] at hlk
            exact va_runIN (As := (st.take (g.2.2.2.2.2.1 - 1)).reverse.map (vz ad 0)) (b := ad rr) ⟨C.1, C.2.1, C.2.2.2.1, C.2.2.2.2.1, C.2.2.2.2.2.1⟩ hM
              ⟨va_cnB (g.2.2.2.2.2.1 - 1) C.2.2.2.2.2.1 hGI hwn rfl rfl hlk hini hd hR, hnm.1, hins⟩ hpre rfl (by rw [List.length_map, List.length_reverse, htk]) (hl.1.trans hln) hstk (lv_room (by rw [cat_all hc5]; exact hc1)) hdec ⟨hcc, hss⟩
        · cases h
      · cases h
    · cases h
  · cases h
set_option maxHeartbeats 1000000 in
theorem sd_stat {l : Launch} {X : Option (Nat × (Nat → Int32))} {cl : Nat → List Value → Sg → Rs} {kn : Kn} {mm : MT} {pc n a b : Nat} {v : Int32} {ls : Lc} {st : List Value} {σ : Sg} {r : Option Value} {σ' : Sg} (hk : ∀ (pc : Nat) (ls : Lc) (st : List Value) (τ : Sg) (r : Option Value) (σ' : Sg), kn pc ls st τ = some (r, σ') → Snd l X mm pc ls st τ r σ') {x : Nat} (hcl : CallOK l cl) (hg : a ≠ 900 → a ≠ 901 → a < 215) (hdec : decode mm.2.1 pc = .ok (.invokestatic x, n)) (hok : okE mm (pc, .invokestatic x, n, v, a, b) = true) (h : stp X cl kn mm (pc, .invokestatic x, n, v, a, b) ls st σ = some (r, σ')) : Snd l X mm pc ls st σ r σ' := by
  simp only [okE, Bool.and_eq_true, decide_eq_true_eq] at hok
  obtain ⟨rfl, hok⟩ := hok
  simp only [stp] at h
  split at h
  · rename_i ha
    rw [if_pos ha] at hok
    simp only [Bool.and_eq_true, decide_eq_true_eq] at hok
    obtain ⟨⟨hac, hF⟩, hQ⟩ := hok
    split at h
    · rename_i mz dp r1 sp r0 rest
      split at h
      · rename_i hc
        obtain ⟨c0, c1, c2, c3, c4, c5, c6, c7⟩ := hc
        have hr0 : rest = [] := List.eq_nil_of_length_eq_zero (by omega)
        subst hr0
        refine (hk _ _ _ _ _ _ h).step rfl rfl wf_cpI rfl ?_
        intro p e R s m args below meth c H0 H locs cells slots Q A D cy ad bb la C Hh hl hln hcs kk
        refine va_copyi C.1 C.2.1 (C.2.2.2.1.trans (hl.1.trans hln).symm) C.2.2.2.2.1 (C.2.2.2.2.2.1 _ (inWS (acT_ok _ hac) rfl)) (C.2.2.2.2.2.1 _ (inWS ww_nat rfl)) (C.2.2.2.2.2.1 _ (inWS ww_sta rfl)) (C.2.2.2.2.2.1 _ (inWS ww_sys rfl)) Hh.2.2.1.1 Hh.1 Hh.2.1 Hh.2.2.2.1 r0 r1 0 0 (ws_10 c0) (ws_10 c1) rfl rfl rfl c2 c3 c4 c5 c6 (fun i hi => rfl) (Nat.le_trans hF C.2.2.2.2.2.2.1) (Nat.le_trans hQ C.2.2.2.2.2.2.2.1) hdec (fun H1 locs1 hP hD hS => kk la H1 locs1 hl (Hh.setI (ws_cpI ?_) hP hD hS))
        rw [cE_10 c1.2]
      · cases h
    · cases h
  rename_i hna
  rw [if_neg hna] at hok
  split at h
  · rename_i ha
    rw [if_pos ha] at hok
    simp only [Bool.and_eq_true, decide_eq_true_eq] at hok
    obtain ⟨⟨hmn, hF⟩, hQ⟩ := hok
    split at h
    · rename_i y x' rest
      split at h
      · rename_i hc
        refine (hk _ _ _ _ _ _ h).step rfl rfl id rfl ?_
        intro p e R s m args below meth c H0 H locs cells slots Q A D cy ad bb la C Hh hl hln hcs kk
        refine va_mmin C.1 C.2.1 (C.2.2.2.1.trans (hl.1.trans hln).symm) C.2.2.2.2.1 (C.2.2.2.2.2.1 _ (inWS (mnT_ok _ hmn) rfl)) (C.2.2.2.2.2.1 _ (inWS ww_mst rfl)) (C.2.2.2.2.2.1 _ (inWS ww_mini rfl)) (C.2.2.2.2.2.1 _ (inWS ww_mco rfl)) (Nat.le_trans hF C.2.2.2.2.2.2.1) ?_ hcs.1 hcs.2 hdec (kk la H locs hl Hh)
        have hz : ((rest.map (vz ad bb)).map fun v => v.category).sum = rest.length := cat_all (N := σ.1) hc.2
        rw [hz]
        have := C.2.2.2.2.2.2.2.1
        omega
      · cases h
    · cases h
  rename_i hnb
  rw [if_neg hnb] at hok
  have hg := hg hna hnb
  simp only [Bool.and_eq_true, decide_eq_true_eq] at hok
  obtain ⟨hmt, hG⟩ := hok
  split at h
  · rename_i g hmg
    rw [hmg] at hG
    simp only [okG, Bool.and_eq_true, decide_eq_true_eq] at hG
    obtain ⟨hMW, hMX⟩ := mwAll hmg hg
    obtain ⟨x1, x2, x3, x4, x5⟩ := MX_spec hMX
    split at h
    · rename_i hc
      obtain ⟨hc0, hc1, hc3, hc4, hc5⟩ := hc
      split at h
      · rename_i rv τ hcall
        have htk : (st.take g.2.2.2.2.2.1).length = g.2.2.2.2.2.1 := by rw [List.length_take]; omega
        have hall : ((st.take g.2.2.2.2.2.1).reverse).all (oka σ.1) = true := by rw [List.all_reverse]; exact hc3
        have hCO := hcl a g _ σ rv τ hmg hg (by rw [List.length_reverse, htk]) hall hcall
        refine Snd.call (rest := st.drop g.2.2.2.2.2.1) (mg := g) (hk _ _ _ _ _ _ h) (fun hw => ⟨(hCO hw).1, (hCO hw).2.1, (hCO hw).2.2.1, (hCO hw).2.2.2.1⟩) hc4 hc5 ?_
        intro hw p e R s m args below meth c H0 H locs cells slots A D cy ad bb la C Hh hl hln hcc hss
        have hM := (hCO hw).2.2.2.2 D cy ad H.size
        have hy : mtY a = g.1 := by unfold mtY; rw [hmg]; rfl
        refine ⟨((st.take g.2.2.2.2.2.1).reverse.map (vz ad 0)).toArray, va_A (wsO cy ad σ) H.size, Hh.A, ?_⟩
        exact va_runS (As := (st.take g.2.2.2.2.2.1).reverse.map (vz ad 0)) ⟨C.1, C.2.1, C.2.2.2.1, C.2.2.2.2.1, C.2.2.2.2.2.1⟩ hM
          (va_cwS g.2.2.2.2.2.1 C.2.2.2.2.2.1 (goodO "" g _ (by
            intro w hw
            simp only [List.mem_cons, List.not_mem_nil, or_false] at hw
            rcases hw with rfl | rfl | rfl
            · have := mtT_ok _ hmt
              simp only [hy] at this
              exact inWS this rfl
            · exact inWS (hMW.2.2.1 hG.1.1) rfl
            · exact inWS hMW.2.1 rfl) hMW.1) rfl rfl rfl ⟨x3, x4, by rw [x5, if_pos hG.1.1]⟩ ⟨Nat.le_trans hG.1.2 C.2.2.2.2.2.2.1, Nat.le_trans hG.2 C.2.2.2.2.2.2.2.1⟩)
          ⟨PcO_blind _ _ _ _ _ _, fun U hU hW => ⟨rfl, by rw [hU], by rw [hU]; exact Hh.1, KO.warm hW Hh.2.2.1, Hh.2.1.weaken (fun _ _ _ _ => trivial)⟩⟩
          rfl (by rw [List.length_map, List.length_reverse, htk]) (hl.1.trans hln) (by
            show st.map (vz ad bb) = _
            rw [← args_vz (b := bb) (N := σ.1) hall, List.map_reverse, List.reverse_reverse, ← List.map_append, List.take_append_drop]) (lv_room (by rw [cat_all hc5]; exact hc1)) hdec ⟨hcc, hss⟩
      · cases h
    · cases h
  · cases h
