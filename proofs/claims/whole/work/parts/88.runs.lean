/-! THE MACHINE'S RUN, where cells are made -/
def Fp (X : Option (Nat × (Nat → Int32))) (f pc : Nat) (ls : Lc) (st : List Value) (σ : Sg) (P : Option Value → Sg → Prop) : Prop := ∃ (n0 : Nat) (r : Option Value) (σ' : Sg), (∀ n, n0 ≤ n → run n X f pc ls st σ = some (r, σ')) ∧ P r σ'
theorem fp_stp {X : Option (Nat × (Nat → Int32))} {f pc pc' : Nat} {mm : MT} {en : En} {ls ls' : Lc} {st st' : List Value} {σ σ' : Sg} {P : Option Value → Sg → Prop} (hm : mT f = some mm) (hl : lkE (cd f) pc = some en) (hs : ∀ (cl : Nat → List Value → Sg → Rs) (kn : Kn), stp X cl kn mm en ls st σ = kn pc' ls' st' σ') (h : Fp X f pc' ls' st' σ' P) : Fp X f pc ls st σ P := by
  obtain ⟨n0, r, τ, h1, h2⟩ := h
  refine ⟨n0 + 1, r, τ, fun n hn => ?_, h2⟩
  obtain ⟨m, rfl⟩ : ∃ m, n = m + 1 := ⟨n - 1, by omega⟩
  unfold run
  rw [hm]
  dsimp only
  rw [hl]
  dsimp only
  rw [hs]
  exact h1 m (by omega)
theorem fp_end {X : Option (Nat × (Nat → Int32))} {f pc : Nat} {mm : MT} {en : En} {ls : Lc} {st : List Value} {σ σ' : Sg} {r : Option Value} {P : Option Value → Sg → Prop} (hm : mT f = some mm) (hl : lkE (cd f) pc = some en) (hs : ∀ (cl : Nat → List Value → Sg → Rs) (kn : Kn), stp X cl kn mm en ls st σ = some (r, σ')) (h : P r σ') : Fp X f pc ls st σ P := by
  refine ⟨1, r, σ', fun n hn => ?_, h⟩
  obtain ⟨m, rfl⟩ : ∃ m, n = m + 1 := ⟨n - 1, by omega⟩
  unfold run
  rw [hm]
  dsimp only
  rw [hl]
  dsimp only
  rw [hs]
theorem fp_cal {X : Option (Nat × (Nat → Int32))} {f pc pc' a : Nat} {mm mg : MT} {en : En} {ls : Lc} {st as rest : List Value} {σ : Sg} {P Q : Option Value → Sg → Prop} (hm : mT f = some mm) (hl : lkE (cd f) pc = some en) (hg : mT a = some mg)
    (hs : ∀ (cl : Nat → List Value → Sg → Rs) (kn : Kn), stp X cl kn mm en ls st σ = (match cl a as σ with | some (rv, σ') => kn pc' ls (rv.toList ++ rest) σ' | none => none))
    (hc : Fp none a 0 (entL mg as) [] σ Q) (h : ∀ rv σ', Q rv σ' → Fp X f pc' ls (rv.toList ++ rest) σ' P) : Fp X f pc ls st σ P := by
  obtain ⟨n0, r, τ, h1, h2⟩ := hc
  obtain ⟨n1, r', τ', h3, h4⟩ := h r τ h2
  refine ⟨n0 + n1 + 1, r', τ', fun n hn => ?_, h4⟩
  obtain ⟨m, rfl⟩ : ∃ m, n = m + 1 := ⟨n - 1, by omega⟩
  unfold run
  rw [hm]
  dsimp only
  rw [hl]
  dsimp only
  rw [hs]
  simp only [hg]
  rw [h1 m (by omega)]
  exact h3 m (by omega)
theorem fp_mono {X : Option (Nat × (Nat → Int32))} {f pc : Nat} {ls : Lc} {st : List Value} {σ : Sg} {P Q : Option Value → Sg → Prop} (h : Fp X f pc ls st σ P) (hq : ∀ r τ, P r τ → Q r τ) : Fp X f pc ls st σ Q := by
  obtain ⟨n0, r, τ, h1, h2⟩ := h
  exact ⟨n0, r, τ, h1, hq r τ h2⟩
def gNew (G : Gm) (N k len : Nat) : Gm := va_up G N (k, len, fun _ => none)
def gRef (G : Gm) (a k q : Nat) : Gm := va_up G a ((G a).1, (G a).2.1, va_up (G a).2.2 k (some q))
def iNew (I : Mm) (N : Nat) : Mm := va_up I N (fun _ => 0)
def iW (I : Mm) (a k : Nat) (x : Int32) : Mm := va_up I a (upd (I a) k x)
theorem gNew_s (G : Gm) (N k len : Nat) : gNew G N k len N = (k, len, fun _ => none) := if_pos rfl
theorem gNew_o (G : Gm) (N k len : Nat) {c : Nat} (h : c ≠ N) : gNew G N k len c = G c := if_neg h
theorem gRef_k (G : Gm) (a k q c : Nat) : (gRef G a k q c).1 = (G c).1 := by
  unfold gRef va_up
  by_cases h : c = a
  · subst h; rw [if_pos rfl]
  · rw [if_neg h]
theorem gRef_l (G : Gm) (a k q c : Nat) : (gRef G a k q c).2.1 = (G c).2.1 := by
  unfold gRef va_up
  by_cases h : c = a
  · subst h; rw [if_pos rfl]
  · rw [if_neg h]
theorem gRef_o (G : Gm) (a k q : Nat) {c : Nat} (h : c ≠ a) : gRef G a k q c = G c := if_neg h
theorem gRef_s (G : Gm) (a k q : Nat) : (gRef G a k q a).2.2 k = some q := by
  unfold gRef
  show (va_up G a _ a).2.2 k = some q
  rw [show va_up G a ((G a).1, (G a).2.1, va_up (G a).2.2 k (some q)) a = ((G a).1, (G a).2.1, va_up (G a).2.2 k (some q)) from if_pos rfl]
  exact if_pos rfl
theorem gRef_j (G : Gm) (a k q : Nat) {j : Nat} (h : j ≠ k) (c : Nat) : (gRef G a k q c).2.2 j = (G c).2.2 j := by
  by_cases e : c = a
  · subst e
    unfold gRef
    rw [show va_up G c ((G c).1, (G c).2.1, va_up (G c).2.2 k (some q)) c = ((G c).1, (G c).2.1, va_up (G c).2.2 k (some q)) from if_pos rfl]
    exact if_neg h
  · rw [gRef_o _ _ _ _ e]
theorem iNew_s (I : Mm) (N : Nat) : iNew I N N = fun _ => 0 := if_pos rfl
theorem iNew_o (I : Mm) (N : Nat) {c : Nat} (h : c ≠ N) : iNew I N c = I c := if_neg h
theorem iW_o (I : Mm) (a k : Nat) (x : Int32) {c : Nat} (h : c ≠ a) : iW I a k x c = I c := if_neg h
theorem iW_s (I : Mm) (a k : Nat) (x : Int32) : iW I a k x a = upd (I a) k x := if_pos rfl
theorem iW_wt (I : Mm) (a k : Nat) (x : Int) : iW I a k (Int32.ofInt x) = wt I a k x := rfl
theorem okl_1 {N r : Nat} (h : r < N) : okl N [some (.ref r)] = true := by simp [okl, okv, h]
theorem okl_2 {N r : Nat} {x : Int32} (h : r < N) : okl N [some (.ref r), some (.int x)] = true := by simp [okl, okv, h]
theorem okl_2n {N r : Nat} (h : r < N) : okl N [some (.ref r), none] = true := by simp [okl, okv, h]
theorem oks_1 {N r : Nat} (h : r < N) : ([Value.ref r] : List Value).all (okv N) = true := by simp [okv, h]
theorem oks_2 {N r q : Nat} (h : r < N) (h2 : q < N) : ([Value.ref q, Value.ref r] : List Value).all (okv N) = true := by simp [okv, h, h2]
theorem oks_3 {N r : Nat} {x : Int32} (h : r < N) : ([Value.int x, Value.ref r] : List Value).all (okv N) = true := by simp [okv, h]
theorem oks_4 {N r q : Nat} {x : Int32} (h : r < N) (h2 : q < N) : ([Value.ref q, Value.int x, Value.ref r] : List Value).all (okv N) = true := by simp [okv, h, h2]
theorem fp_iconst {X : Option (Nat × (Nat → Int32))} {f pc n a b N M : Nat} {v : Int32} {G : Gm} {I : Mm} {ls : Lc} {st : List Value} {P : Option Value → Sg → Prop} {mm : MT} {k : Int} (hm : mT f = some mm) (hl : lkE (cd f) pc = some (pc, .iconst k, n, v, a, b)) (pc' : Nat) (hp : pc + n = pc') 
    (h : Fp X f pc' ls (.int v :: st) (N, M, G, I) P) : Fp X f pc ls st (N, M, G, I) P :=
  fp_stp hm hl (fun cl kn => by subst hp; exact (rfl)) h
theorem fp_bipush {X : Option (Nat × (Nat → Int32))} {f pc n a b N M : Nat} {v : Int32} {G : Gm} {I : Mm} {ls : Lc} {st : List Value} {P : Option Value → Sg → Prop} {mm : MT} {k : Int} (hm : mT f = some mm) (hl : lkE (cd f) pc = some (pc, .bipush k, n, v, a, b)) (pc' : Nat) (hp : pc + n = pc') 
    (h : Fp X f pc' ls (.int v :: st) (N, M, G, I) P) : Fp X f pc ls st (N, M, G, I) P :=
  fp_stp hm hl (fun cl kn => by subst hp; exact (rfl)) h
theorem fp_sipush {X : Option (Nat × (Nat → Int32))} {f pc n a b N M : Nat} {v : Int32} {G : Gm} {I : Mm} {ls : Lc} {st : List Value} {P : Option Value → Sg → Prop} {mm : MT} {k : Int} (hm : mT f = some mm) (hl : lkE (cd f) pc = some (pc, .sipush k, n, v, a, b)) (pc' : Nat) (hp : pc + n = pc') 
    (h : Fp X f pc' ls (.int v :: st) (N, M, G, I) P) : Fp X f pc ls st (N, M, G, I) P :=
  fp_stp hm hl (fun cl kn => by subst hp; exact (rfl)) h
theorem fp_ldc {X : Option (Nat × (Nat → Int32))} {f pc n a b N M : Nat} {v : Int32} {G : Gm} {I : Mm} {ls : Lc} {st : List Value} {P : Option Value → Sg → Prop} {mm : MT} {k : Nat} (hm : mT f = some mm) (hl : lkE (cd f) pc = some (pc, .ldc k, n, v, a, b)) (pc' : Nat) (hp : pc + n = pc') 
    (h : Fp X f pc' ls (.int v :: st) (N, M, G, I) P) : Fp X f pc ls st (N, M, G, I) P :=
  fp_stp hm hl (fun cl kn => by subst hp; exact (rfl)) h
theorem fp_aload {X : Option (Nat × (Nat → Int32))} {f pc n a b N M : Nat} {v : Int32} {G : Gm} {I : Mm} {ls : Lc} {st : List Value} {P : Option Value → Sg → Prop} {mm : MT} {k : Fin 4} (hm : mT f = some mm) (hl : lkE (cd f) pc = some (pc, .aload_n k, n, v, a, b)) (pc' : Nat) (hp : pc + n = pc') {r : Nat} (hr : ls[a]? = some (some (.ref r)))
    (h : Fp X f pc' ls (.ref r :: st) (N, M, G, I) P) : Fp X f pc ls st (N, M, G, I) P :=
  fp_stp hm hl (fun cl kn => by subst hp; exact (by show (match ls[a]? with | some (some (.ref x)) => kn (pc + n) ls (.ref x :: st) (N, M, G, I) | some (some (.retAddr x)) => kn (pc + n) ls (.retAddr x :: st) (N, M, G, I) | _ => none) = _; rw [hr])) h
theorem fp_aloadX {X : Option (Nat × (Nat → Int32))} {f pc n a b N M : Nat} {v : Int32} {G : Gm} {I : Mm} {ls : Lc} {st : List Value} {P : Option Value → Sg → Prop} {mm : MT} {k : Fin 4} (hm : mT f = some mm) (hl : lkE (cd f) pc = some (pc, .aload_n k, n, v, a, b)) (pc' : Nat) (hp : pc + n = pc') {r : Nat} (hr : ls[a]? = some (some (.retAddr r)))
    (h : Fp X f pc' ls (.retAddr r :: st) (N, M, G, I) P) : Fp X f pc ls st (N, M, G, I) P :=
  fp_stp hm hl (fun cl kn => by subst hp; exact (by show (match ls[a]? with | some (some (.ref x)) => kn (pc + n) ls (.ref x :: st) (N, M, G, I) | some (some (.retAddr x)) => kn (pc + n) ls (.retAddr x :: st) (N, M, G, I) | _ => none) = _; rw [hr])) h
theorem fp_iload {X : Option (Nat × (Nat → Int32))} {f pc n a b N M : Nat} {v : Int32} {G : Gm} {I : Mm} {ls : Lc} {st : List Value} {P : Option Value → Sg → Prop} {mm : MT} {k : Fin 4} (hm : mT f = some mm) (hl : lkE (cd f) pc = some (pc, .iload_n k, n, v, a, b)) (pc' : Nat) (hp : pc + n = pc') {x : Int32} (hr : ls[a]? = some (some (.int x)))
    (h : Fp X f pc' ls (.int x :: st) (N, M, G, I) P) : Fp X f pc ls st (N, M, G, I) P :=
  fp_stp hm hl (fun cl kn => by subst hp; exact (by show (match ls[a]? with | some (some (.int x)) => kn (pc + n) ls (.int x :: st) (N, M, G, I) | _ => none) = _; rw [hr])) h
theorem fp_istore {X : Option (Nat × (Nat → Int32))} {f pc n a b N M : Nat} {v : Int32} {G : Gm} {I : Mm} {ls : Lc} {st : List Value} {P : Option Value → Sg → Prop} {mm : MT} {k : Fin 4} {x : Int32} (hm : mT f = some mm) (hl : lkE (cd f) pc = some (pc, .istore_n k, n, v, a, b)) (pc' : Nat) (hp : pc + n = pc') (ha : a < ls.length)
    (h : Fp X f pc' (ls.set a (some (.int x))) st (N, M, G, I) P) : Fp X f pc ls (.int x :: st) (N, M, G, I) P :=
  fp_stp hm hl (fun cl kn => by subst hp; exact (if_pos ha)) h
theorem fp_astore {X : Option (Nat × (Nat → Int32))} {f pc n a b N M : Nat} {v : Int32} {G : Gm} {I : Mm} {ls : Lc} {st : List Value} {P : Option Value → Sg → Prop} {mm : MT} {k : Fin 4} {x : Nat} (hm : mT f = some mm) (hl : lkE (cd f) pc = some (pc, .astore_n k, n, v, a, b)) (pc' : Nat) (hp : pc + n = pc') (ha : a < ls.length)
    (h : Fp X f pc' (ls.set a (some (.ref x))) st (N, M, G, I) P) : Fp X f pc ls (.ref x :: st) (N, M, G, I) P :=
  fp_stp hm hl (fun cl kn => by subst hp; exact (if_pos ha)) h
theorem fp_iinc {X : Option (Nat × (Nat → Int32))} {f pc n a b N M : Nat} {v : Int32} {G : Gm} {I : Mm} {ls : Lc} {st : List Value} {P : Option Value → Sg → Prop} {mm : MT} {j : Nat} {k : Int} (hm : mT f = some mm) (hl : lkE (cd f) pc = some (pc, .iinc j k, n, v, a, b)) (pc' : Nat) (hp : pc + n = pc') {x : Int32} (hr : ls[a]? = some (some (.int x)))
    (h : Fp X f pc' (ls.set a (some (.int (x + v)))) st (N, M, G, I) P) : Fp X f pc ls st (N, M, G, I) P :=
  fp_stp hm hl (fun cl kn => by subst hp; exact (by show (match ls[a]? with | some (some (.int x)) => kn (pc + n) (ls.set a (some (.int (x + v)))) st (N, M, G, I) | _ => none) = _; rw [hr])) h
theorem fp_iadd {X : Option (Nat × (Nat → Int32))} {f pc n a b N M : Nat} {v : Int32} {G : Gm} {I : Mm} {ls : Lc} {st : List Value} {P : Option Value → Sg → Prop} {mm : MT} {x y : Int32} (hm : mT f = some mm) (hl : lkE (cd f) pc = some (pc, .iadd, n, v, a, b)) (pc' : Nat) (hp : pc + n = pc') 
    (h : Fp X f pc' ls (.int (x + y) :: st) (N, M, G, I) P) : Fp X f pc ls (.int y :: .int x :: st) (N, M, G, I) P :=
  fp_stp hm hl (fun cl kn => by subst hp; exact (rfl)) h
theorem fp_isub {X : Option (Nat × (Nat → Int32))} {f pc n a b N M : Nat} {v : Int32} {G : Gm} {I : Mm} {ls : Lc} {st : List Value} {P : Option Value → Sg → Prop} {mm : MT} {x y : Int32} (hm : mT f = some mm) (hl : lkE (cd f) pc = some (pc, .isub, n, v, a, b)) (pc' : Nat) (hp : pc + n = pc') 
    (h : Fp X f pc' ls (.int (x - y) :: st) (N, M, G, I) P) : Fp X f pc ls (.int y :: .int x :: st) (N, M, G, I) P :=
  fp_stp hm hl (fun cl kn => by subst hp; exact (rfl)) h
theorem fp_imul {X : Option (Nat × (Nat → Int32))} {f pc n a b N M : Nat} {v : Int32} {G : Gm} {I : Mm} {ls : Lc} {st : List Value} {P : Option Value → Sg → Prop} {mm : MT} {x y : Int32} (hm : mT f = some mm) (hl : lkE (cd f) pc = some (pc, .imul, n, v, a, b)) (pc' : Nat) (hp : pc + n = pc') 
    (h : Fp X f pc' ls (.int (x * y) :: st) (N, M, G, I) P) : Fp X f pc ls (.int y :: .int x :: st) (N, M, G, I) P :=
  fp_stp hm hl (fun cl kn => by subst hp; exact (rfl)) h
theorem fp_iand {X : Option (Nat × (Nat → Int32))} {f pc n a b N M : Nat} {v : Int32} {G : Gm} {I : Mm} {ls : Lc} {st : List Value} {P : Option Value → Sg → Prop} {mm : MT} {x y : Int32} (hm : mT f = some mm) (hl : lkE (cd f) pc = some (pc, .iand, n, v, a, b)) (pc' : Nat) (hp : pc + n = pc') 
    (h : Fp X f pc' ls (.int (x &&& y) :: st) (N, M, G, I) P) : Fp X f pc ls (.int y :: .int x :: st) (N, M, G, I) P :=
  fp_stp hm hl (fun cl kn => by subst hp; exact (rfl)) h
theorem fp_dup {X : Option (Nat × (Nat → Int32))} {f pc n a b N M : Nat} {v : Int32} {G : Gm} {I : Mm} {ls : Lc} {st : List Value} {P : Option Value → Sg → Prop} {mm : MT} {x : Nat} (hm : mT f = some mm) (hl : lkE (cd f) pc = some (pc, .dup, n, v, a, b)) (pc' : Nat) (hp : pc + n = pc') 
    (h : Fp X f pc' ls (.ref x :: .ref x :: st) (N, M, G, I) P) : Fp X f pc ls (.ref x :: st) (N, M, G, I) P :=
  fp_stp hm hl (fun cl kn => by subst hp; exact (rfl)) h
theorem fp_goto {X : Option (Nat × (Nat → Int32))} {f pc n a b N M : Nat} {v : Int32} {G : Gm} {I : Mm} {ls : Lc} {st : List Value} {P : Option Value → Sg → Prop} {mm : MT} {k : Int} (hm : mT f = some mm) (hl : lkE (cd f) pc = some (pc, .goto k, n, v, a, b))  
    (h : Fp X f a ls st (N, M, G, I) P) : Fp X f pc ls st (N, M, G, I) P :=
  fp_stp hm hl (fun cl kn => rfl) h
theorem fp_gr {X : Option (Nat × (Nat → Int32))} {f pc n a b N M : Nat} {v : Int32} {G : Gm} {I : Mm} {ls : Lc} {st : List Value} {P : Option Value → Sg → Prop} {mm : MT} {k r : Nat} (hm : mT f = some mm) (hl : lkE (cd f) pc = some (pc, .getfield k, n, v, a, b)) (pc' : Nat) (hp : pc + n = pc') (hr : r < N) (hk : (G r).1 = a) (ft : (ftk a)[b]? = some 2) {q : Nat} (hq : (G r).2.2 b = some q)
    (h : Fp X f pc' ls (.ref q :: st) (N, M, G, I) P) : Fp X f pc ls (.ref r :: st) (N, M, G, I) P :=
  fp_stp hm hl (fun cl kn => by subst hp; exact (by show (if hsC (N, M, G, I) r a then (match (ftk a)[b]? with | some 2 => (match (G r).2.2 b with | some q => kn (pc + n) ls (.ref q :: st) (N, M, G, I) | none => none) | some _ => kn (pc + n) ls (.int (I r b) :: st) (N, M, G, I) | none => none) else none) = _; rw [if_pos ⟨hr, hk⟩, ft]; show (match (G r).2.2 b with | some q => kn (pc + n) ls (.ref q :: st) (N, M, G, I) | none => none) = _; rw [hq])) h
theorem fp_gi {X : Option (Nat × (Nat → Int32))} {f pc n a b N M : Nat} {v : Int32} {G : Gm} {I : Mm} {ls : Lc} {st : List Value} {P : Option Value → Sg → Prop} {mm : MT} {k r : Nat} (hm : mT f = some mm) (hl : lkE (cd f) pc = some (pc, .getfield k, n, v, a, b)) (pc' : Nat) (hp : pc + n = pc') (hr : r < N) (hk : (G r).1 = a) (ft : (ftk a)[b]? = some 0)
    (h : Fp X f pc' ls (.int (I r b) :: st) (N, M, G, I) P) : Fp X f pc ls (.ref r :: st) (N, M, G, I) P :=
  fp_stp hm hl (fun cl kn => by subst hp; exact (by show (if hsC (N, M, G, I) r a then (match (ftk a)[b]? with | some 2 => (match (G r).2.2 b with | some q => kn (pc + n) ls (.ref q :: st) (N, M, G, I) | none => none) | some _ => kn (pc + n) ls (.int (I r b) :: st) (N, M, G, I) | none => none) else none) = _; rw [if_pos ⟨hr, hk⟩, ft]; rfl)) h
theorem fp_pi {X : Option (Nat × (Nat → Int32))} {f pc n a b N M : Nat} {v : Int32} {G : Gm} {I : Mm} {ls : Lc} {st : List Value} {P : Option Value → Sg → Prop} {mm : MT} {k r : Nat} {x : Int32} (hm : mT f = some mm) (hl : lkE (cd f) pc = some (pc, .putfield k, n, v, a, b)) (pc' : Nat) (hp : pc + n = pc') (hr : r < N) (hk : (G r).1 = a) (ft : (ftk a)[b]? = some 0)
    (h : Fp X f pc' ls st (N, M, G, iW I r b x) P) : Fp X f pc ls (.int x :: .ref r :: st) (N, M, G, I) P :=
  fp_stp hm hl (fun cl kn => by subst hp; exact (by show (if hsC (N, M, G, I) r a then (match (ftk a)[b]? with | some 0 => kn (pc + n) ls st (wrI (N, M, G, I) r b x) | some 1 => if x = 0 ∨ x = 1 then kn (pc + n) ls st (wrI (N, M, G, I) r b x) else none | _ => none) else none) = _; rw [if_pos ⟨hr, hk⟩, ft]; rfl)) h
theorem fp_pb {X : Option (Nat × (Nat → Int32))} {f pc n a b N M : Nat} {v : Int32} {G : Gm} {I : Mm} {ls : Lc} {st : List Value} {P : Option Value → Sg → Prop} {mm : MT} {k r : Nat} {x : Int32} (hm : mT f = some mm) (hl : lkE (cd f) pc = some (pc, .putfield k, n, v, a, b)) (pc' : Nat) (hp : pc + n = pc') (hr : r < N) (hk : (G r).1 = a) (ft : (ftk a)[b]? = some 1) (hx : x = 0 ∨ x = 1)
    (h : Fp X f pc' ls st (N, M, G, iW I r b x) P) : Fp X f pc ls (.int x :: .ref r :: st) (N, M, G, I) P :=
  fp_stp hm hl (fun cl kn => by subst hp; exact (by show (if hsC (N, M, G, I) r a then (match (ftk a)[b]? with | some 0 => kn (pc + n) ls st (wrI (N, M, G, I) r b x) | some 1 => if x = 0 ∨ x = 1 then kn (pc + n) ls st (wrI (N, M, G, I) r b x) else none | _ => none) else none) = _; rw [if_pos ⟨hr, hk⟩, ft]; exact if_pos hx)) h
theorem fp_pr {X : Option (Nat × (Nat → Int32))} {f pc n a b N M : Nat} {v : Int32} {G : Gm} {I : Mm} {ls : Lc} {st : List Value} {P : Option Value → Sg → Prop} {mm : MT} {k r q : Nat} (hm : mT f = some mm) (hl : lkE (cd f) pc = some (pc, .putfield k, n, v, a, b)) (pc' : Nat) (hp : pc + n = pc') (hr : r < N) (hk : (G r).1 = a) (ft : (ftk a)[b]? = some 2) (hq : q < N)
    (h : Fp X f pc' ls st (N, M, gRef G r b q, I) P) : Fp X f pc ls (.ref q :: .ref r :: st) (N, M, G, I) P :=
  fp_stp hm hl (fun cl kn => by subst hp; exact (if_pos ⟨⟨hr, hk⟩, hq, ft⟩)) h
theorem fp_ias {X : Option (Nat × (Nat → Int32))} {f pc n a b N M : Nat} {v : Int32} {G : Gm} {I : Mm} {ls : Lc} {st : List Value} {P : Option Value → Sg → Prop} {mm : MT} {r : Nat} {x i : Int32} (hm : mT f = some mm) (hl : lkE (cd f) pc = some (pc, .iastore, n, v, a, b)) (pc' : Nat) (hp : pc + n = pc') (hr : r < N) (hk : (G r).1 = 10) (hi : ¬ ibd i (G r).2.1)
    (h : Fp X f pc' ls st (N, M, G, iW I r i.toNatClampNeg x) P) : Fp X f pc ls (.int x :: .int i :: .ref r :: st) (N, M, G, I) P :=
  fp_stp hm hl (fun cl kn => by subst hp; exact (by show (if hsC (N, M, G, I) r 10 then (if ibd i (G r).2.1 then none else kn (pc + n) ls st (wrI (N, M, G, I) r i.toNatClampNeg x)) else none) = _; rw [if_pos ⟨hr, hk⟩, if_neg hi]; rfl)) h
theorem fp_ial {X : Option (Nat × (Nat → Int32))} {f pc n a b N M : Nat} {v : Int32} {G : Gm} {I : Mm} {ls : Lc} {st : List Value} {P : Option Value → Sg → Prop} {mm : MT} {r : Nat} {i : Int32} (hm : mT f = some mm) (hl : lkE (cd f) pc = some (pc, .iaload, n, v, a, b)) (pc' : Nat) (hp : pc + n = pc') (hr : r < N) (hk : (G r).1 = 10) (hi : ¬ ibd i (G r).2.1)
    (h : Fp X f pc' ls (.int (I r i.toNatClampNeg) :: st) (N, M, G, I) P) : Fp X f pc ls (.int i :: .ref r :: st) (N, M, G, I) P :=
  fp_stp hm hl (fun cl kn => by subst hp; exact (by show (if hsC (N, M, G, I) r 10 then (if ibd i (G r).2.1 then none else kn (pc + n) ls (.int (I r i.toNatClampNeg) :: st) (N, M, G, I)) else none) = _; rw [if_pos ⟨hr, hk⟩, if_neg hi])) h
theorem fp_aas {X : Option (Nat × (Nat → Int32))} {f pc n a b N M : Nat} {v : Int32} {G : Gm} {I : Mm} {ls : Lc} {st : List Value} {P : Option Value → Sg → Prop} {mm : MT} {r q : Nat} {i : Int32} (hm : mT f = some mm) (hl : lkE (cd f) pc = some (pc, .aastore, n, v, a, b)) (pc' : Nat) (hp : pc + n = pc') (hr : r < N) (hq : q < N) (hk : ((G r).1 = 12 ∧ (G q).1 = 6) ∨ ((G r).1 = 13 ∧ (G q).1 = 2)) (hi : ¬ ibd i (G r).2.1) (ix : Nat) (hx : i.toNatClampNeg = ix)
    (h : Fp X f pc' ls st (N, M, gRef G r ix q, I) P) : Fp X f pc ls (.ref q :: .int i :: .ref r :: st) (N, M, G, I) P :=
  fp_stp hm hl (fun cl kn => by subst hp; exact (by subst hx; show (if (hsC (N, M, G, I) r 12 ∧ hsC (N, M, G, I) q 6) ∨ (hsC (N, M, G, I) r 13 ∧ hsC (N, M, G, I) q 2) then (if ibd i (G r).2.1 then none else kn (pc + n) ls st (wrR (N, M, G, I) r i.toNatClampNeg q)) else none) = _; rw [if_pos (hk.elim (fun h => Or.inl ⟨⟨hr, h.1⟩, ⟨hq, h.2⟩⟩) (fun h => Or.inr ⟨⟨hr, h.1⟩, ⟨hq, h.2⟩⟩)), if_neg hi]; rfl)) h
theorem fp_al {X : Option (Nat × (Nat → Int32))} {f pc n a b N M : Nat} {v : Int32} {G : Gm} {I : Mm} {ls : Lc} {st : List Value} {P : Option Value → Sg → Prop} {mm : MT} {r : Nat} (hm : mT f = some mm) (hl : lkE (cd f) pc = some (pc, .arraylength, n, v, a, b)) (pc' : Nat) (hp : pc + n = pc') (hr : r < N) (hk : (G r).1 = 10)
    (h : Fp X f pc' ls (.int (Int32.ofNat (G r).2.1) :: st) (N, M, G, I) P) : Fp X f pc ls (.ref r :: st) (N, M, G, I) P :=
  fp_stp hm hl (fun cl kn => by subst hp; exact (if_pos ⟨hr, hk⟩)) h
theorem fp_oi {X : Option (Nat × (Nat → Int32))} {f pc n a b N M : Nat} {v : Int32} {G : Gm} {I : Mm} {ls : Lc} {st : List Value} {P : Option Value → Sg → Prop} {mm : MT} {k r : Nat} (hm : mT f = some mm) (hl : lkE (cd f) pc = some (pc, .invokespecial k, n, v, 902, b)) (pc' : Nat) (hp : pc + n = pc') 
    (h : Fp X f pc' ls [] (N, M, G, I) P) : Fp X f pc ls [.ref r] (N, M, G, I) P :=
  fp_stp hm hl (fun cl kn => by subst hp; exact (rfl)) h
theorem fp_new {X : Option (Nat × (Nat → Int32))} {f pc n a b N M : Nat} {v : Int32} {G : Gm} {I : Mm} {ls : Lc} {st : List Value} {P : Option Value → Sg → Prop} {mm : MT} {k : Nat} (hm : mT f = some mm) (hl : lkE (cd f) pc = some (pc, .new k, n, v, a, b)) (pc' : Nat) (hp : pc + n = pc') (N' : Nat) (hN : N + 1 = N') (h1 : okl N ls = true) (h2 : st.all (okv N) = true) (h3 : a < 10)
    (h : Fp X f pc' ls (.ref N :: st) (N', M + NC a, gNew G N a 0, iNew I N) P) : Fp X f pc ls st (N, M, G, I) P :=
  fp_stp hm hl (fun cl kn => by subst hp; subst hN; exact (if_pos ⟨h1, h2, h3⟩)) h
theorem fp_na {X : Option (Nat × (Nat → Int32))} {f pc n a b N M : Nat} {v : Int32} {G : Gm} {I : Mm} {ls : Lc} {st : List Value} {P : Option Value → Sg → Prop} {mm : MT} {k : ArrayType} {x : Int32} (hm : mT f = some mm) (hl : lkE (cd f) pc = some (pc, .newarray k, n, v, a, b)) (pc' : Nat) (hp : pc + n = pc') (N' : Nat) (hN : N + 1 = N') (h1 : okl N ls = true) (h2 : st.all (okv N) = true) (len : Nat) (h3 : ¬ x < 0) (h4 : x.toNatClampNeg = len) (h5 : len ≤ 100000) (h6 : a = 10 ∨ a = 11)
    (h : Fp X f pc' ls (.ref N :: st) (N', M + len, gNew G N a len, iNew I N) P) : Fp X f pc ls (.int x :: st) (N, M, G, I) P :=
  fp_stp hm hl (fun cl kn => by subst hp; subst hN; exact (by subst h4; exact if_pos ⟨h1, h2, h3, h5, h6⟩)) h
theorem fp_nr {X : Option (Nat × (Nat → Int32))} {f pc n a b N M : Nat} {v : Int32} {G : Gm} {I : Mm} {ls : Lc} {st : List Value} {P : Option Value → Sg → Prop} {mm : MT} {k : Nat} {x : Int32} (hm : mT f = some mm) (hl : lkE (cd f) pc = some (pc, .anewarray k, n, v, a, b)) (pc' : Nat) (hp : pc + n = pc') (N' : Nat) (hN : N + 1 = N') (h1 : okl N ls = true) (h2 : st.all (okv N) = true) (len : Nat) (h3 : ¬ x < 0) (h4 : x.toNatClampNeg = len) (h5 : len ≤ 100000) (h6 : a = 12 ∨ a = 13)
    (h : Fp X f pc' ls (.ref N :: st) (N', M + len, gNew G N a len, iNew I N) P) : Fp X f pc ls (.int x :: st) (N, M, G, I) P :=
  fp_stp hm hl (fun cl kn => by subst hp; subst hN; exact (by subst h4; exact if_pos ⟨h1, h2, h3, h5, h6⟩)) h
theorem fp_ge1 {X : Option (Nat × (Nat → Int32))} {f pc n a b N M : Nat} {v : Int32} {G : Gm} {I : Mm} {ls : Lc} {st : List Value} {P : Option Value → Sg → Prop} {mm : MT} {k : Int} {x y : Int32} (hm : mT f = some mm) (hl : lkE (cd f) pc = some (pc, .if_icmp .ge k, n, v, a, b))  (hc : y ≤ x)
    (h : Fp X f a ls st (N, M, G, I) P) : Fp X f pc ls (.int y :: .int x :: st) (N, M, G, I) P :=
  fp_stp hm hl (fun cl kn => if_pos hc) h
theorem fp_ge0 {X : Option (Nat × (Nat → Int32))} {f pc n a b N M : Nat} {v : Int32} {G : Gm} {I : Mm} {ls : Lc} {st : List Value} {P : Option Value → Sg → Prop} {mm : MT} {k : Int} {x y : Int32} (hm : mT f = some mm) (hl : lkE (cd f) pc = some (pc, .if_icmp .ge k, n, v, a, b)) (pc' : Nat) (hp : pc + n = pc') (hc : ¬ y ≤ x)
    (h : Fp X f pc' ls st (N, M, G, I) P) : Fp X f pc ls (.int y :: .int x :: st) (N, M, G, I) P :=
  fp_stp hm hl (fun cl kn => by subst hp; exact (if_neg hc)) h
theorem fp_gt1 {X : Option (Nat × (Nat → Int32))} {f pc n a b N M : Nat} {v : Int32} {G : Gm} {I : Mm} {ls : Lc} {st : List Value} {P : Option Value → Sg → Prop} {mm : MT} {k : Int} {x y : Int32} (hm : mT f = some mm) (hl : lkE (cd f) pc = some (pc, .if_icmp .gt k, n, v, a, b))  (hc : y < x)
    (h : Fp X f a ls st (N, M, G, I) P) : Fp X f pc ls (.int y :: .int x :: st) (N, M, G, I) P :=
  fp_stp hm hl (fun cl kn => if_pos hc) h
theorem fp_gt0 {X : Option (Nat × (Nat → Int32))} {f pc n a b N M : Nat} {v : Int32} {G : Gm} {I : Mm} {ls : Lc} {st : List Value} {P : Option Value → Sg → Prop} {mm : MT} {k : Int} {x y : Int32} (hm : mT f = some mm) (hl : lkE (cd f) pc = some (pc, .if_icmp .gt k, n, v, a, b)) (pc' : Nat) (hp : pc + n = pc') (hc : ¬ y < x)
    (h : Fp X f pc' ls st (N, M, G, I) P) : Fp X f pc ls (.int y :: .int x :: st) (N, M, G, I) P :=
  fp_stp hm hl (fun cl kn => by subst hp; exact (if_neg hc)) h
theorem fp_eq1 {X : Option (Nat × (Nat → Int32))} {f pc n a b N M : Nat} {v : Int32} {G : Gm} {I : Mm} {ls : Lc} {st : List Value} {P : Option Value → Sg → Prop} {mm : MT} {k : Int} {x y : Int32} (hm : mT f = some mm) (hl : lkE (cd f) pc = some (pc, .if_icmp .eq k, n, v, a, b))  (hc : x = y)
    (h : Fp X f a ls st (N, M, G, I) P) : Fp X f pc ls (.int y :: .int x :: st) (N, M, G, I) P :=
  fp_stp hm hl (fun cl kn => if_pos hc) h
theorem fp_eq0 {X : Option (Nat × (Nat → Int32))} {f pc n a b N M : Nat} {v : Int32} {G : Gm} {I : Mm} {ls : Lc} {st : List Value} {P : Option Value → Sg → Prop} {mm : MT} {k : Int} {x y : Int32} (hm : mT f = some mm) (hl : lkE (cd f) pc = some (pc, .if_icmp .eq k, n, v, a, b)) (pc' : Nat) (hp : pc + n = pc') (hc : ¬ x = y)
    (h : Fp X f pc' ls st (N, M, G, I) P) : Fp X f pc ls (.int y :: .int x :: st) (N, M, G, I) P :=
  fp_stp hm hl (fun cl kn => by subst hp; exact (if_neg hc)) h
theorem fp_ret {X : Option (Nat × (Nat → Int32))} {f pc n a b : Nat} {v : Int32} {ls : Lc} {σ : Sg} {P : Option Value → Sg → Prop} {mm : MT} (hm : mT f = some mm) (hl : lkE (cd f) pc = some (pc, .return_, n, v, a, b)) (hr : mm.2.2.2.1 = none) (h : P none σ) : Fp X f pc ls [] σ P :=
  fp_end hm hl (fun cl kn => by show (match mm.2.2.2.1 with | none => some (none, σ) | _ => none) = _; rw [hr]) h
theorem fp_ir {X : Option (Nat × (Nat → Int32))} {f pc n a b : Nat} {v x : Int32} {ls : Lc} {σ : Sg} {P : Option Value → Sg → Prop} {mm : MT} (hm : mT f = some mm) (hl : lkE (cd f) pc = some (pc, .ireturn, n, v, a, b)) (hr : mm.2.2.2.1 = some .int) (h : P (some (.int x)) σ) : Fp X f pc ls [.int x] σ P :=
  fp_end hm hl (fun cl kn => by show (match mm.2.2.2.1 with | some FieldType.int => some (some (Value.int x), σ) | some FieldType.boolean => if x = 0 ∨ x = 1 then some (some (Value.int x), σ) else none | _ => none) = _; rw [hr]) h
theorem fp_iz {X : Option (Nat × (Nat → Int32))} {f pc n a b : Nat} {v x : Int32} {ls : Lc} {σ : Sg} {P : Option Value → Sg → Prop} {mm : MT} (hm : mT f = some mm) (hl : lkE (cd f) pc = some (pc, .ireturn, n, v, a, b)) (hr : mm.2.2.2.1 = some .boolean) (hx : x = 0 ∨ x = 1) (h : P (some (.int x)) σ) : Fp X f pc ls [.int x] σ P :=
  fp_end hm hl (fun cl kn => by show (match mm.2.2.2.1 with | some FieldType.int => some (some (Value.int x), σ) | some FieldType.boolean => if x = 0 ∨ x = 1 then some (some (Value.int x), σ) else none | _ => none) = _; rw [hr]; exact if_pos hx) h
/-- a constructor's call, with no more than one int -/
theorem fp_is0 {X : Option (Nat × (Nat → Int32))} {f pc n a b N M r k : Nat} {v : Int32} {G : Gm} {I : Mm} {ls : Lc} {rest : List Value} {P Q : Option Value → Sg → Prop} {mm mg : MT} (hm : mT f = some mm) (hl : lkE (cd f) pc = some (pc, .invokespecial k, n, v, a, b)) (pc' : Nat) (hp : pc + n = pc') (ha : ¬ a = 902) (hg : mT a = some mg) (hn : mg.2.2.2.2.2.1 = 1) (h1 : rest.length ≤ 8) (hr : r < N) (hk : (G r).1 = mg.2.2.2.2.1) (h3 : okl N ls = true) (h4 : rest.all (okv N) = true)
    (hc : Fp none a 0 (entL mg [.ref r]) [] (N, M, G, I) Q) (h : ∀ σ', Q none σ' → Fp X f pc' ls rest σ' P) (hv : ∀ rv σ', Q rv σ' → rv = none) : Fp X f pc ls (.ref r :: rest) (N, M, G, I) P :=
  fp_cal (pc' := pc') (as := [.ref r]) (rest := rest) hm hl hg (fun cl kn => by
    subst hp
    show (if a = 902 then _ else (match mT a with | some g => (match (Value.ref r :: rest).drop (g.2.2.2.2.2.1 - 1) with | .ref r' :: rest' => if rest'.length ≤ 8 ∧ hsC (N, M, G, I) r' g.2.2.2.2.1 ∧ ((Value.ref r :: rest).take (g.2.2.2.2.2.1 - 1)).all (oka N) = true ∧ okl N ls = true ∧ rest'.all (okv N) = true then (match cl a (.ref r' :: ((Value.ref r :: rest).take (g.2.2.2.2.2.1 - 1)).reverse) (N, M, G, I) with | some (rv, σ') => kn (pc + n) ls (rv.toList ++ rest') σ' | none => none) else none | _ => none) | none => none)) = _
    rw [if_neg ha, hg]
    dsimp only
    rw [hn]
    exact if_pos ⟨h1, ⟨hr, hk⟩, rfl, h3, h4⟩) hc (fun rv σ' hq => by
    have := hv rv σ' hq
    subst this
    exact h σ' hq)
theorem fp_is1 {X : Option (Nat × (Nat → Int32))} {f pc n a b N M r k : Nat} {v x : Int32} {G : Gm} {I : Mm} {ls : Lc} {rest : List Value} {P Q : Option Value → Sg → Prop} {mm mg : MT} (hm : mT f = some mm) (hl : lkE (cd f) pc = some (pc, .invokespecial k, n, v, a, b)) (pc' : Nat) (hp : pc + n = pc') (ha : ¬ a = 902) (hg : mT a = some mg) (hn : mg.2.2.2.2.2.1 = 2) (h1 : rest.length ≤ 8) (hr : r < N) (hk : (G r).1 = mg.2.2.2.2.1) (h3 : okl N ls = true) (h4 : rest.all (okv N) = true)
    (hc : Fp none a 0 (entL mg [.ref r, .int x]) [] (N, M, G, I) Q) (h : ∀ σ', Q none σ' → Fp X f pc' ls rest σ' P) (hv : ∀ rv σ', Q rv σ' → rv = none) : Fp X f pc ls (.int x :: .ref r :: rest) (N, M, G, I) P :=
  fp_cal (pc' := pc') (as := [.ref r, .int x]) (rest := rest) hm hl hg (fun cl kn => by
    subst hp
    show (if a = 902 then _ else (match mT a with | some g => (match (Value.int x :: Value.ref r :: rest).drop (g.2.2.2.2.2.1 - 1) with | .ref r' :: rest' => if rest'.length ≤ 8 ∧ hsC (N, M, G, I) r' g.2.2.2.2.1 ∧ ((Value.int x :: Value.ref r :: rest).take (g.2.2.2.2.2.1 - 1)).all (oka N) = true ∧ okl N ls = true ∧ rest'.all (okv N) = true then (match cl a (.ref r' :: ((Value.int x :: Value.ref r :: rest).take (g.2.2.2.2.2.1 - 1)).reverse) (N, M, G, I) with | some (rv, σ') => kn (pc + n) ls (rv.toList ++ rest') σ' | none => none) else none | _ => none) | none => none)) = _
    rw [if_neg ha, hg]
    dsimp only
    rw [hn]
    exact if_pos ⟨h1, ⟨hr, hk⟩, rfl, h3, h4⟩) hc (fun rv σ' hq => by
    have := hv rv σ' hq
    subst this
    exact h σ' hq)
theorem fp_st2 {X : Option (Nat × (Nat → Int32))} {f pc n a b N M r k : Nat} {v x : Int32} {G : Gm} {I : Mm} {ls : Lc} {rest : List Value} {P Q : Option Value → Sg → Prop} {mm mg : MT} (hm : mT f = some mm) (hl : lkE (cd f) pc = some (pc, .invokestatic k, n, v, a, b)) (pc' : Nat) (hp : pc + n = pc') (ha : ¬ a = 900) (ha2 : ¬ a = 901) (hg : mT a = some mg) (hn : mg.2.2.2.2.2.1 = 2) (h1 : rest.length ≤ 8) (hr : r < N) (h3 : okl N ls = true) (h4 : rest.all (okv N) = true)
    (hc : Fp none a 0 (entL mg [.ref r, .int x]) [] (N, M, G, I) Q) (h : ∀ σ', Q none σ' → Fp X f pc' ls rest σ' P) (hv : ∀ rv σ', Q rv σ' → rv = none) : Fp X f pc ls (.int x :: .ref r :: rest) (N, M, G, I) P :=
  fp_cal (pc' := pc') (as := [.ref r, .int x]) (rest := rest) hm hl hg (fun cl kn => by
    subst hp
    show (if a = 900 then _ else if a = 901 then _ else (match mT a with | some g => if g.2.2.2.2.2.1 ≤ (Value.int x :: Value.ref r :: rest).length ∧ ((Value.int x :: Value.ref r :: rest).drop g.2.2.2.2.2.1).length ≤ 8 ∧ ((Value.int x :: Value.ref r :: rest).take g.2.2.2.2.2.1).all (oka N) = true ∧ okl N ls = true ∧ ((Value.int x :: Value.ref r :: rest).drop g.2.2.2.2.2.1).all (okv N) = true then (match cl a ((Value.int x :: Value.ref r :: rest).take g.2.2.2.2.2.1).reverse (N, M, G, I) with | some (rv, σ') => kn (pc + n) ls (rv.toList ++ (Value.int x :: Value.ref r :: rest).drop g.2.2.2.2.2.1) σ' | none => none) else none | none => none)) = _
    rw [if_neg ha, if_neg ha2, hg]
    dsimp only
    rw [hn]
    exact if_pos ⟨by simp, h1, by simp [oka, hr], h3, h4⟩) hc (fun rv σ' hq => by
    have := hv rv σ' hq
    subst this
    exact h σ' hq)
theorem fp_iv {X : Option (Nat × (Nat → Int32))} {f pc n a b N M r k : Nat} {v : Int32} {G : Gm} {I : Mm} {ls : Lc} {rest : List Value} {P Q : Option Value → Sg → Prop} {mm mg : MT} (as : List Value) (hm : mT f = some mm) (hl : lkE (cd f) pc = some (pc, .invokevirtual k, n, v, a, b)) (pc' : Nat) (hp : pc + n = pc') (hg : mT a = some mg) (hn : mg.2.2.2.2.2.1 = as.length + 1) (h1 : rest.length ≤ 8) (hr : r < N) (hk : (G r).1 = mg.2.2.2.2.1) (h2 : as.all (oka N) = true) (h3 : okl N ls = true) (h4 : rest.all (okv N) = true)
    (hc : Fp none a 0 (entL mg (.ref r :: as)) [] (N, M, G, I) Q) (h : ∀ rv σ', Q rv σ' → Fp X f pc' ls (rv.toList ++ rest) σ' P) : Fp X f pc ls (as.reverse ++ (.ref r :: rest)) (N, M, G, I) P :=
  fp_cal (pc' := pc') (as := .ref r :: as) (rest := rest) hm hl hg (fun cl kn => by
    subst hp
    have l : as.reverse.length = as.length := List.length_reverse
    have d : (as.reverse ++ (Value.ref r :: rest)).drop (as.length + 1 - 1) = Value.ref r :: rest := by rw [Nat.add_sub_cancel, ← l, List.drop_left]
    have t : (as.reverse ++ (Value.ref r :: rest)).take (as.length + 1 - 1) = as.reverse := by rw [Nat.add_sub_cancel, ← l, List.take_left]
    show (match mT a with | some g => (match (as.reverse ++ (Value.ref r :: rest)).drop (g.2.2.2.2.2.1 - 1) with | .ref r' :: rest' => if rest'.length ≤ 8 ∧ hsC (N, M, G, I) r' g.2.2.2.2.1 ∧ ((as.reverse ++ (Value.ref r :: rest)).take (g.2.2.2.2.2.1 - 1)).all (oka N) = true ∧ okl N ls = true ∧ rest'.all (okv N) = true then (match cl a (.ref r' :: ((as.reverse ++ (Value.ref r :: rest)).take (g.2.2.2.2.2.1 - 1)).reverse) (N, M, G, I) with | some (rv, σ') => kn (pc + n) ls (rv.toList ++ rest') σ' | none => none) else none | _ => none) | none => none) = _
    rw [hg]
    dsimp only
    rw [hn, d, t, List.reverse_reverse]
    exact if_pos ⟨h1, ⟨hr, hk⟩, by rw [List.all_reverse]; exact h2, h3, h4⟩) hc h
theorem lit_n {x : Int32} {i : Nat} (h : x = Int32.ofInt (i : Int)) (hi : i < 2147483648) : x.toNatClampNeg = i ∧ x.toInt = (i : Int) := by
  have w : wr (i : Int) = i := wrn i rfl hi
  subst h
  refine ⟨?_, w⟩
  rw [clamp_wr (by rw [w]; omega), w, Int.toNat_natCast]
theorem inc_n {x : Int32} {i : Nat} (h : x = Int32.ofInt (i : Int)) : x + 1 = Int32.ofInt ((i + 1 : Nat) : Int) := by
  subst h
  rw [show (1 : Int32) = Int32.ofInt 1 from rfl, ← Int32.ofInt_add]
  rfl
theorem ibd_n {x : Int32} {i len : Nat} (h : x = Int32.ofInt (i : Int)) (hi : i < 2147483648) (hl : i < len) : ¬ ibd x len := by
  subst h
  have w : wr (i : Int) = i := wrn i rfl hi
  exact not_ibd (by rw [w]; omega)
theorem le_n {x y : Int32} {i j : Nat} (h : x = Int32.ofInt (i : Int)) (hi : i < 2147483648) (h' : y = Int32.ofInt (j : Int)) (hj : j < 2147483648) : y ≤ x ↔ j ≤ i := by
  rw [Int32.le_iff_toInt_le, (lit_n h hi).2, (lit_n h' hj).2]
  omega
