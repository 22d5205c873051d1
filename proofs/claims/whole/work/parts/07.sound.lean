/-! SOUNDNESS: what the flat machine does, the machine does -/
def KO (D : va_G) (cy : Nat → ClassId) (U : State) : Prop := va_K D vwCl (tysO cy) U ∧ va_AO RX6 U ∧ va_AO RX2 U ∧ ∀ e ∈ ntT, va_Nw (Cond.methodLinkNest (RC e.1) e.2.1 (mtY e.2.2) "IndexedTable") U
theorem KO.warm {D : va_G} {cy : Nat → ClassId} {s U : State} (hW : s.WarmedH U.vm) (h : KO D cy s) : KO D cy U := ⟨va_K.moved hW.alike h.1, va_AO.moved hW.alike h.2.1, va_AO.moved hW.alike h.2.2.1, fun e he => va_Nw.warmM hW (h.2.2.2 e he)⟩
theorem KO.blind {D : va_G} {cy : Nat → ClassId} {U V : State} (hv : U.vm = V.vm) (h : KO D cy U) : KO D cy V := ⟨va_K.moved (by rw [← hv]; exact Vm.Alike.refl _) h.1, va_AO.moved (by rw [← hv]; exact Vm.Alike.refl _) h.2.1, va_AO.moved (by rw [← hv]; exact Vm.Alike.refl _) h.2.2.1, fun e he => va_Nw.same rfl hv (h.2.2.2 e he)⟩
def Hld (D : va_G) (cy : Nat → ClassId) (ad : Nat → Nat) (A : Nat → Prop) (H0 H : Heap) (locs : List Loc) (σ : Sg) (s : State) (X : Option (Nat × (Nat → Int32))) (b : Nat) : Prop :=
  va_P D vwCl (wsO cy ad σ) H ∧ va_D A (wsO cy ad σ) ∧ KO D cy s ∧ va_S A H0 H locs ∧ (∀ q, H0.size ≤ q → A q) ∧ (∀ L xs, X = some (L, xs) → va_X b L xs s H0 ∧ b < H0.size ∧ ¬ A b)
def Ctx (p : Program) (R : Room) (s : State) (m : MethodId) (args : Array Value) (meth : Method) (c : Code) (mm : MT) : Prop := p.tables.exec = Jvm.exec ∧ c.code = mm.2.1 ∧ meth.sig.returnType = mm.2.2.2.1 ∧ c.maxLocals = mm.2.2.1 ∧ s.vm.findClass (RC mm.2.2.2.2.1) = some m.cls ∧ (∀ w ∈ WS, w.before args s = true) ∧ mm.2.2.2.2.2.2.1 ≤ R.frames ∧ mm.2.2.2.2.2.2.2.1 ≤ R.locals ∧ meth.locks = false ∧ (mm.2.2.2.2.2.2.2.2 = 2 → meth.name = "<init>")
def RetO (mm : MT) (pc : Nat) (r : Option Value) (N : Nat) : Prop := match r with
  | none => mm.2.2.2.1 = none ∧ decode mm.2.1 pc = .ok (.return_, 1)
  | some (.int x) => (mm.2.2.2.1 = some .int ∨ (mm.2.2.2.1 = some .boolean ∧ (x = 0 ∨ x = 1))) ∧ decode mm.2.1 pc = .ok (.ireturn, 1)
  | some (.ref q) => (∃ nm, mm.2.2.2.1 = some (.object nm)) ∧ decode mm.2.1 pc = .ok (.areturn, 1) ∧ q < N
  | _ => False
def Snd (l : Launch) (X : Option (Nat × (Nat → Int32))) (mm : MT) (pc : Nat) (ls : Lc) (st : List Value) (σ : Sg) (r : Option Value) (σ' : Sg) : Prop :=
  wfG σ → (wfG σ' ∧ σ.1 ≤ σ'.1 ∧ σ.2.1 ≤ σ'.2.1 ∧ (∃ pc', RetO mm pc' r σ'.1) ∧
   ∀ (p : Program) (e : Env) (R : Room) (s : State) (m : MethodId) (args : Array Value) (below : List Frame) (meth : Method) (c : Code) (H0 H : Heap) (locs : List Loc) (cells slots : Nat) (Q : State → Prop) (A : Nat → Prop) (D : va_G) (cy : Nat → ClassId) (ad : Nat → Nat) (b : Nat) (la : Array Slot),
    Ctx p R s m args meth c mm → Hld D cy ad A H0 H locs σ s X b → LV ad b la ls → ls.length = mm.2.2.1 →
    cells + (σ'.1 - σ.1) ≤ R.cells → slots + (σ'.2.1 - σ.2.1) ≤ R.slots →
    (∀ (ad' : Nat → Nat) (H' : Heap) (locs' : List Loc) (pc' : Nat) (la' : Array Slot), (∀ k, k < σ.1 → ad' k = ad k) → Hld D cy ad' A H0 H' locs' σ' s X b → RetO mm pc' r σ'.1 → W p l e R s m args below meth c H' locs' (cells + (σ'.1 - σ.1)) (slots + (σ'.2.1 - σ.2.1)) Q (F0 m pc' la' (r.toList.map (vz ad' b)))) →
    W p l e R s m args below meth c H locs cells slots Q (F0 m pc la (st.map (vz ad b))))
theorem Snd.step {l : Launch} {X : Option (Nat × (Nat → Int32))} {mm : MT} {pc pc' : Nat} {ls ls' : Lc} {st st' : List Value} {σ τ : Sg} {r : Option Value} {σ' : Sg} (hS : Snd l X mm pc' ls' st' τ r σ') (h1 : τ.1 = σ.1) (h2 : τ.2.1 = σ.2.1) (hwf : wfG σ → wfG τ) (hlen : ls'.length = ls.length)
    (hW : ∀ (p : Program) (e : Env) (R : Room) (s : State) (m : MethodId) (args : Array Value) (below : List Frame) (meth : Method) (c : Code) (H0 H : Heap) (locs : List Loc) (cells slots : Nat) (Q : State → Prop) (A : Nat → Prop) (D : va_G) (cy : Nat → ClassId) (ad : Nat → Nat) (b : Nat) (la : Array Slot),
      Ctx p R s m args meth c mm → Hld D cy ad A H0 H locs σ s X b → LV ad b la ls → ls.length = mm.2.2.1 → cells ≤ R.cells ∧ slots ≤ R.slots →
      (∀ (la' : Array Slot) (H' : Heap) (locs' : List Loc), LV ad b la' ls' → Hld D cy ad A H0 H' locs' τ s X b → W p l e R s m args below meth c H' locs' cells slots Q (F0 m pc' la' (st'.map (vz ad b)))) →
      W p l e R s m args below meth c H locs cells slots Q (F0 m pc la (st.map (vz ad b)))) : Snd l X mm pc ls st σ r σ' := by
  intro hw
  obtain ⟨a1, a2, a3, a4, k⟩ := hS (hwf hw)
  rw [h1] at a2
  rw [h2] at a3
  refine ⟨a1, a2, a3, a4, ?_⟩
  intro p e R s m args below meth c H0 H locs cells slots Q A D cy ad b la C Hh hl hln hc hs hQ
  refine hW p e R s m args below meth c H0 H locs cells slots Q A D cy ad b la C Hh hl hln ⟨by omega, by omega⟩ ?_
  intro la' H' locs' hl' Hh'
  refine k p e R s m args below meth c H0 H' locs' cells slots Q A D cy ad b la' C Hh' hl' (hlen.trans hln) ?_ ?_ ?_
  · rw [h1]; exact hc
  · rw [h2]; exact hs
  · rw [h1, h2]; exact hQ
theorem inWS {w : Cond} (h : w ∈ lw_tbl) (hg : goodWord w = true) : w ∈ WS := List.mem_filter.mpr ⟨h, hg⟩
theorem cE_obj {cy : Nat → ClassId} {ad : Nat → Nat} {g : Nat × Nat × (Nat → Option Nat)} {iv : Nat → Int32} {a : Nat} (h : g.1 = a) (ha : a < 10) : cE cy ad g iv = .inr (a, fvL ad g.2.2 iv (ftk a) 0) := by
  subst h
  unfold cE
  rw [if_neg (by omega), if_neg (by omega), if_neg (by omega), if_neg (by omega)]
theorem cE_10 {cy : Nat → ClassId} {ad : Nat → Nat} {g : Nat × Nat × (Nat → Option Nat)} {iv : Nat → Int32} (h : g.1 = 10) : cE cy ad g iv = .inl (cy 0, g.2.1, .inl iv) := by
  unfold cE; rw [if_pos h]
theorem cE_11 {cy : Nat → ClassId} {ad : Nat → Nat} {g : Nat × Nat × (Nat → Option Nat)} {iv : Nat → Int32} (h : g.1 = 11) : cE cy ad g iv = .inl (cy 1, g.2.1, .inl iv) := by
  unfold cE; rw [if_neg (by omega), if_pos h]
theorem cE_12 {cy : Nat → ClassId} {ad : Nat → Nat} {g : Nat × Nat × (Nat → Option Nat)} {iv : Nat → Int32} (h : g.1 = 12) : cE cy ad g iv = .inl (cy 2, g.2.1, .inr (.inr (.inr (.inr (fun j => (g.2.2 j).map ad))))) := by
  unfold cE; rw [if_neg (by omega), if_neg (by omega), if_pos h]
theorem cE_13 {cy : Nat → ClassId} {ad : Nat → Nat} {g : Nat × Nat × (Nat → Option Nat)} {iv : Nat → Int32} (h : g.1 = 13) : cE cy ad g iv = .inl (cy 3, g.2.1, .inr (.inr (.inr (.inr (fun j => (g.2.2 j).map ad))))) := by
  unfold cE; rw [if_neg (by omega), if_neg (by omega), if_neg (by omega), if_pos h]
theorem wf_wrI {σ : Sg} {a k : Nat} {x : Int32} (h : wfG σ) : wfG (wrI σ a k x) := h
theorem wf_cpI {σ : Sg} {a k c d e : Nat} (h : wfG σ) : wfG (cpI σ a k c d e) := h
theorem wf_wrR {σ : Sg} {a k q : Nat} (hq : q < σ.1) (h : wfG σ) : wfG (wrR σ a k q) := by
  intro i hi j z hz
  show z < σ.1
  have hz : (va_up σ.2.2.1 a ((σ.2.2.1 a).1, (σ.2.2.1 a).2.1, va_up (σ.2.2.1 a).2.2 k (some q)) i).2.2 j = some z := hz
  by_cases e1 : i = a
  · subst e1
    rw [va_up_self] at hz
    by_cases e2 : j = k
    · subst e2
      simp only [va_up_self] at hz
      cases hz
      exact hq
    · simp only [va_up_ne _ _ e2] at hz
      exact h i hi j z hz
  · rw [va_up_ne _ _ e1] at hz
    exact h i hi j z hz
theorem wf_nw {σ : Sg} {a k c : Nat} (h : wfG σ) : wfG (nwC σ a k c) := by
  intro i hi j z hz
  have hz : (va_up σ.2.2.1 σ.1 (a, k, fun _ => none) i).2.2 j = some z := hz
  by_cases e1 : i = σ.1
  · subst e1
    rw [va_up_self] at hz
    cases hz
  · rw [va_up_ne _ _ e1] at hz
    have hi : i < σ.1 + 1 := hi
    have := h i (by omega) j z hz
    show z < σ.1 + 1
    omega
/-- a cell's ints become others -/
theorem Hld.setI {D : va_G} {cy : Nat → ClassId} {ad : Nat → Nat} {A : Nat → Prop} {H0 H H' : Heap} {locs locs' : List Loc} {σ τ : Sg} {s : State} {X : Option (Nat × (Nat → Int32))} {b : Nat} {k : Nat} {e' : va_E} (h : Hld D cy ad A H0 H locs σ s X b) (he : (wsO cy ad σ).set k (ad k, e') = wsO cy ad τ)
    (hP : va_P D vwCl ((wsO cy ad σ).set k (ad k, e')) H') (hD : va_D A ((wsO cy ad σ).set k (ad k, e'))) (hS : va_S A H0 H' locs') : Hld D cy ad A H0 H' locs' τ s X b := by
  rw [he] at hP hD
  exact ⟨hP, hD, h.2.2.1, hS, h.2.2.2.2⟩
