def clR (n : Nat) : Nat → List Value → Sg → Rs := fun g as τ => match mT g with
  | none => none
  | some mg => run n none g 0 (entL mg as) [] τ
theorem GoI.of_stp {f pc : Nat} {mm : MT} {en : En} {ls : Lc} {st : List Value} {I : Mm} {P : Option Value → Mm → Prop} (hm : mT f = some mm) (hl : lkE (cd f) pc = some en) (h : ∀ (N M : Nat) (G : Gm), Shp N G → ∃ (n0 : Nat) (r : Option Value) (I' : Mm), (∀ n, n0 ≤ n → stp none (clR n) (run n none f) mm en ls st (N, M, G, I) = some (r, (N, M, G, I'))) ∧ P r I') : GoI f pc ls st I P := by
  intro N M G hS
  obtain ⟨n0, r, I', a, b⟩ := h N M G hS
  refine ⟨n0 + 1, r, I', fun n hn => ?_, b⟩
  cases n with
  | zero => omega
  | succ n =>
    unfold run
    rw [hm]
    dsimp only
    rw [hl]
    exact a n (by omega)
def okZ (e : En) : Bool := match e with
  | (_, i, _, v, _, _) => match i with
    | .iconst z | .bipush z | .sipush z => decide (Int32.ofInt z = v) && decide (-2147483648 ≤ z) && decide (z < 2147483648)
    | .iinc _ z => decide (Int32.ofInt z = v)
    | _ => true
def sorB : Nat → List En → Bool
  | _, [] => true
  | lo, e :: es => decide (lo ≤ e.1) && sorB (e.1 + 1) es
theorem cdAll (P : List En → Bool) (h0 : P [] = true) (h : (cd0 ++ (cd1 ++ (cd2 ++ (cd3 ++ (cd4 ++ (cd5 ++ (cd6 ++ cd7))))))).all P = true) (f : Nat) : P (cd f) = true := by
  have key : ∀ (l : List (List En)), (∀ k ∈ l, P k = true) → ∀ i : Nat, P ((l[i]?).getD []) = true := by
    intro l hl i
    cases hc : l[i]? with
    | none => exact h0
    | some k => exact hl k (List.mem_of_getElem? hc)
  have h := List.all_eq_true.mp h
  simp only [List.mem_append] at h
  unfold cd
  split
  · exact key _ (fun k hk => h k (Or.inl hk)) _
  · exact key _ (fun k hk => h k (Or.inr (Or.inl hk))) _
  · exact key _ (fun k hk => h k (Or.inr (Or.inr (Or.inl hk)))) _
  · exact key _ (fun k hk => h k (Or.inr (Or.inr (Or.inr (Or.inl hk))))) _
  · exact key _ (fun k hk => h k (Or.inr (Or.inr (Or.inr (Or.inr (Or.inl hk)))))) _
  · exact key _ (fun k hk => h k (Or.inr (Or.inr (Or.inr (Or.inr (Or.inr (Or.inl hk))))))) _
  · exact key _ (fun k hk => h k (Or.inr (Or.inr (Or.inr (Or.inr (Or.inr (Or.inr (Or.inl hk)))))))) _
  · exact key _ (fun k hk => h k (Or.inr (Or.inr (Or.inr (Or.inr (Or.inr (Or.inr (Or.inr hk)))))))) _
  · exact h0
set_option maxRecDepth 100000 in
theorem okZ_all (f : Nat) : (cd f).all okZ = true := cdAll (fun k => k.all okZ) rfl (by decide +kernel) f
set_option maxRecDepth 100000 in
theorem sorB_all (f : Nat) : sorB 0 (cd f) = true := cdAll (sorB 0) rfl (by decide +kernel) f
theorem sorB_ge : ∀ {k : List En} {lo : Nat} {e : En}, sorB lo k = true → e ∈ k → lo ≤ e.1
  | [], lo, e, _, h => absurd h List.not_mem_nil
  | q :: k, lo, e, hs, h => by
    simp only [sorB, Bool.and_eq_true, decide_eq_true_eq] at hs
    rcases List.mem_cons.mp h with rfl | h
    · exact hs.1
    · have := sorB_ge hs.2 h
      omega
theorem lkE_mem : ∀ {k : List En} {lo : Nat} {e : En}, sorB lo k = true → e ∈ k → lkE k e.1 = some e
  | [], lo, e, _, h => absurd h List.not_mem_nil
  | q :: k, lo, e, hs, h => by
    simp only [sorB, Bool.and_eq_true] at hs
    unfold lkE
    rcases List.mem_cons.mp h with rfl | h
    · rw [if_pos rfl]
    · have := sorB_ge hs.2 h
      rw [if_neg (by omega)]
      exact lkE_mem hs.2 h
theorem avL_get {ls : AL} {a : Nat} {v : AV} (h : ls[a]? = some (some v)) : (avL ls)[a]? = some (some (av v)) := by
  simp [avL, h]
theorem avL_set (ls : AL) (a : Nat) (v : AV) : avL (ls.set a (some v)) = (avL ls).set a (some (av v)) := by
  simp [avL, List.map_set]
theorem avL_len (ls : AL) : (avL ls).length = ls.length := by simp [avL]
theorem okFL_set {ls : AL} {a : Nat} {v : AV} (h : okFL ls) (hv : okF v) : okFL (ls.set a (some v)) := by
  intro w hw
  rcases List.mem_or_eq_of_mem_set hw with h1 | h1
  · exact h w h1
  · cases h1; exact hv
theorem okFS_cons {st : List AV} {v : AV} (hv : okF v) (h : okFS st) : okFS (v :: st) := by
  intro w hw
  rcases List.mem_cons.mp hw with rfl | h1
  · exact hv
  · exact h w h1
theorem okFS_tail {st : List AV} {v : AV} (h : okFS (v :: st)) : okFS st := fun w hw => h w (List.mem_cons_of_mem _ hw)
theorem okFS_head {st : List AV} {v : AV} (h : okFS (v :: st)) : okF v := h v List.mem_cons_self
theorem okF_f (x : Int) : okF (.inl (false, x)) := trivial
theorem okF_r (r : Nat) : okF (.inr r) := trivial
theorem okFL_get {ls : AL} {a : Nat} {v : AV} (h : okFL ls) (hv : ls[a]? = some (some v)) : okF v := h v (List.mem_of_getElem? hv)
theorem shC {N M : Nat} {G : Gm} {I : Mm} (hS : Shp N G) {r a : Nat} (h : okA r a) : hsC (N, M, G, I) r a := ⟨Nat.lt_of_lt_of_le h.1 hS.1, (hS.2 r h.1).1.trans h.2⟩
theorem okl_of {N : Nat} (hN : 260 ≤ N) : ∀ {ls : AL}, orL ls → okl N (avL ls) = true
  | [], _ => rfl
  | none :: ls, h => okl_of hN (ls := ls) h
  | some (.inl q) :: ls, h => okl_of hN (ls := ls) h
  | some (.inr r) :: ls, h => by
    have h1 : r < 260 ∧ orL ls := h
    have h2 := okl_of hN h1.2
    show (decide (r < N) && okl N (avL ls)) = true
    rw [h2, Bool.and_true]
    exact decide_eq_true (by omega)
theorem okv_of {N : Nat} (hN : 260 ≤ N) : ∀ {st : List AV}, orS st → (st.map av).all (okv N) = true ∧ (st.map av).all (oka N) = true
  | [], _ => ⟨rfl, rfl⟩
  | .inl q :: st, h => okv_of hN (st := st) h
  | .inr r :: st, h => by
    have h1 : r < 260 ∧ orS st := h
    obtain ⟨h2, h3⟩ := okv_of hN h1.2
    have hr : decide (r < N) = true := decide_eq_true (by omega)
    exact ⟨by show (decide (r < N) && (st.map av).all (okv N)) = true; rw [h2, hr]; rfl, by show (decide (r < N) && (st.map av).all (oka N)) = true; rw [h3, hr]; rfl⟩
theorem orS_app : ∀ {s1 s2 : List AV}, orS (s1 ++ s2) → orS s1 ∧ orS s2
  | [], s2, h => ⟨trivial, h⟩
  | .inl q :: s1, s2, h => orS_app (s1 := s1) h
  | .inr r :: s1, s2, h => by
    have h : r < 260 ∧ orS (s1 ++ s2) := h
    obtain ⟨h1, h2⟩ := orS_app h.2
    exact ⟨⟨h.1, h1⟩, h2⟩
theorem clamp_wr {x : Int} (h : 0 ≤ wr x) : (Int32.ofInt x).toNatClampNeg = (wr x).toNat := rfl
theorem not_ibd {x : Int} {n : Nat} (h : 0 ≤ wr x ∧ wr x < n) : ¬ ibd (Int32.ofInt x) n := by
  rintro (h1 | h1)
  · rw [Int32.lt_iff_toInt_lt] at h1
    have : (Int32.ofInt x).toInt = wr x := rfl
    rw [this, Int32.toInt_zero] at h1
    omega
  · rw [clamp_wr h.1] at h1
    omega
theorem bo_wr {x : Int} (h : wr x = 0 ∨ wr x = 1) : Int32.ofInt x = 0 ∨ Int32.ofInt x = 1 := by
  rcases h with h | h
  · left; exact Int32.toInt_inj.mp h
  · right; exact Int32.toInt_inj.mp h
theorem wtS (N M : Nat) (G : Gm) (I : Mm) (r k : Nat) (x : Int) : wrI (N, M, G, I) r k (Int32.ofInt x) = (N, M, G, wt I r k x) := rfl
theorem i_eq0 (x : Int) : Int32.ofInt x = 0 ↔ wr x = 0 := i_eq x 0
theorem i_lt0 (x : Int) : Int32.ofInt x < 0 ↔ wr x < 0 := i_lt x 0
theorem i_le0 (x : Int) : Int32.ofInt x ≤ 0 ↔ wr x ≤ 0 := i_le x 0
theorem i_gt0 (x : Int) : 0 < Int32.ofInt x ↔ 0 < wr x := i_lt 0 x
theorem i_ge0 (x : Int) : 0 ≤ Int32.ofInt x ↔ 0 ≤ wr x := i_le 0 x
theorem sln_le (r : Nat) : sln r ≤ 40000 := by
  unfold sln
  have key : ∀ (l : List Nat), (∀ x ∈ l, x ≤ 40000) → ∀ i : Nat, (l[i]?).getD 0 ≤ 40000 := by
    intro l hl i
    cases hc : l[i]? with
    | none => simp
    | some k => exact hl k (List.mem_of_getElem? hc)
  split
  · split
    · exact key _ (by decide) _
    · exact key _ (by decide) _
  · split
    · exact key _ (by decide) _
    · exact key _ (by decide) _
theorem sln_in (r : Nat) : inR (sln r : Int) := by
  have := sln_le r
  unfold inR
  omega
theorem nz_of {y : Int} (h : 0 < wr y) : ¬ Int32.ofInt y = 0 := by
  intro e
  have : wr y = wr 0 := (i_eq y 0).mp e
  have h0 : wr 0 = 0 := rfl
  omega
theorem div_in {x y : Int} (hx : inR x) (h0 : 0 ≤ x) (h9 : 0 < y) : inR (x / y) := by
  have h1 : 0 ≤ x / y := Int.ediv_nonneg h0 (by omega)
  have h2 : x / y ≤ x := Int.ediv_le_self y h0
  unfold inR at hx ⊢
  omega
theorem mod_in {x y : Int} (hx : inR x) (h0 : 0 ≤ x) (h9 : 0 < y) : inR (x % y) := by
  have h1 : 0 ≤ x % y := Int.emod_nonneg x (by omega)
  have h2 : x % y ≤ x := by
    have := Int.mul_ediv_add_emod x y
    have h3 : 0 ≤ y * (x / y) := Int.mul_nonneg (by omega) (Int.ediv_nonneg h0 (by omega))
    omega
  unfold inR at hx ⊢
  omega
theorem div_wr {x y : Int} (h0 : 0 ≤ wr x) (h9 : 0 < wr y) : Int32.ofInt x / Int32.ofInt y = Int32.ofInt (wr x / wr y) := by
  apply Int32.toInt_inj.mp
  have e1 : (Int32.ofInt (wr x / wr y)).toInt = wr x / wr y := wr_of (div_in (wr_in x) h0 h9)
  rw [e1, Int32.toInt_div_of_ne_right]
  · show (wr x).tdiv (wr y) = _
    rw [Int.tdiv_eq_ediv_of_nonneg h0]
  · intro e
    have : wr y = wr (-1) := (i_eq y (-1)).mp e
    have h1 : wr (-1) = -1 := rfl
    omega
theorem mod_wr {x y : Int} (h0 : 0 ≤ wr x) (h9 : 0 < wr y) : Int32.ofInt x - Int32.ofInt x / Int32.ofInt y * Int32.ofInt y = Int32.ofInt (wr x % wr y) := by
  rw [div_wr h0 h9]
  have e : wr x % wr y = wr x - wr x / wr y * wr y := by
    have := Int.mul_ediv_add_emod (wr x) (wr y)
    rw [Int.mul_comm] at this
    omega
  rw [e, Int32.ofInt_sub, Int32.ofInt_mul, of_wr, of_wr]
theorem sv_iconst {f : Nat} {mm : MT} {pc n a b : Nat} {v : Int32} {ls : AL} {st : List AV} {I : Mm} {P : Option Value → Mm → Prop} {kn : Nat → AL → List AV → Mm → Prop} {cl : Nat → List AV → Mm → (Option AV → Mm → Prop) → Prop} {rt : Option AV → Mm → Prop} (hm : mT f = some mm) (hls : okFL ls) (hst : okFS st) (hkn : ∀ pc ls st I, okFL ls → okFS st → kn pc ls st I → GoI f pc (avL ls) (st.map av) I P) {z : Int} (hl : lkE (cd f) pc = some (pc, .iconst z, n, v, a, b)) (hz : okZ (pc, .iconst z, n, v, a, b) = true) (h : vst mm (pc, .iconst z, n, v, a, b) ls st I kn cl rt) : GoI f pc (avL ls) (st.map av) I P := by
  simp only [okZ, Bool.and_eq_true, decide_eq_true_eq] at hz
  have h : kn (pc + n) ls (.inl (true, z) :: st) I := h
  have K := hkn _ _ _ _ hls (okFS_cons (v := .inl (true, z)) ⟨hz.1.2, hz.2⟩ hst) h
  refine GoI.of_stp hm hl ?_
  intro N M G hS
  obtain ⟨n0, r0, I0, h1, h2⟩ := K N M G hS
  refine ⟨n0, r0, I0, fun n9 hn => ?_, h2⟩
  show run n9 none f (pc + n) (avL ls) (.int v :: st.map av) (N, M, G, I) = _
  rw [← hz.1.1]
  exact h1 n9 hn
theorem sv_bipush {f : Nat} {mm : MT} {pc n a b : Nat} {v : Int32} {ls : AL} {st : List AV} {I : Mm} {P : Option Value → Mm → Prop} {kn : Nat → AL → List AV → Mm → Prop} {cl : Nat → List AV → Mm → (Option AV → Mm → Prop) → Prop} {rt : Option AV → Mm → Prop} (hm : mT f = some mm) (hls : okFL ls) (hst : okFS st) (hkn : ∀ pc ls st I, okFL ls → okFS st → kn pc ls st I → GoI f pc (avL ls) (st.map av) I P) {z : Int} (hl : lkE (cd f) pc = some (pc, .bipush z, n, v, a, b)) (hz : okZ (pc, .bipush z, n, v, a, b) = true) (h : vst mm (pc, .bipush z, n, v, a, b) ls st I kn cl rt) : GoI f pc (avL ls) (st.map av) I P := by
  simp only [okZ, Bool.and_eq_true, decide_eq_true_eq] at hz
  have h : kn (pc + n) ls (.inl (true, z) :: st) I := h
  have K := hkn _ _ _ _ hls (okFS_cons (v := .inl (true, z)) ⟨hz.1.2, hz.2⟩ hst) h
  refine GoI.of_stp hm hl ?_
  intro N M G hS
  obtain ⟨n0, r0, I0, h1, h2⟩ := K N M G hS
  refine ⟨n0, r0, I0, fun n9 hn => ?_, h2⟩
  show run n9 none f (pc + n) (avL ls) (.int v :: st.map av) (N, M, G, I) = _
  rw [← hz.1.1]
  exact h1 n9 hn
theorem sv_sipush {f : Nat} {mm : MT} {pc n a b : Nat} {v : Int32} {ls : AL} {st : List AV} {I : Mm} {P : Option Value → Mm → Prop} {kn : Nat → AL → List AV → Mm → Prop} {cl : Nat → List AV → Mm → (Option AV → Mm → Prop) → Prop} {rt : Option AV → Mm → Prop} (hm : mT f = some mm) (hls : okFL ls) (hst : okFS st) (hkn : ∀ pc ls st I, okFL ls → okFS st → kn pc ls st I → GoI f pc (avL ls) (st.map av) I P) {z : Int} (hl : lkE (cd f) pc = some (pc, .sipush z, n, v, a, b)) (hz : okZ (pc, .sipush z, n, v, a, b) = true) (h : vst mm (pc, .sipush z, n, v, a, b) ls st I kn cl rt) : GoI f pc (avL ls) (st.map av) I P := by
  simp only [okZ, Bool.and_eq_true, decide_eq_true_eq] at hz
  have h : kn (pc + n) ls (.inl (true, z) :: st) I := h
  have K := hkn _ _ _ _ hls (okFS_cons (v := .inl (true, z)) ⟨hz.1.2, hz.2⟩ hst) h
  refine GoI.of_stp hm hl ?_
  intro N M G hS
  obtain ⟨n0, r0, I0, h1, h2⟩ := K N M G hS
  refine ⟨n0, r0, I0, fun n9 hn => ?_, h2⟩
  show run n9 none f (pc + n) (avL ls) (.int v :: st.map av) (N, M, G, I) = _
  rw [← hz.1.1]
  exact h1 n9 hn
theorem sv_ldc {f : Nat} {mm : MT} {pc n a b : Nat} {v : Int32} {ls : AL} {st : List AV} {I : Mm} {P : Option Value → Mm → Prop} {kn : Nat → AL → List AV → Mm → Prop} {cl : Nat → List AV → Mm → (Option AV → Mm → Prop) → Prop} {rt : Option AV → Mm → Prop} (hm : mT f = some mm) (hls : okFL ls) (hst : okFS st) (hkn : ∀ pc ls st I, okFL ls → okFS st → kn pc ls st I → GoI f pc (avL ls) (st.map av) I P) {z : Nat} (hl : lkE (cd f) pc = some (pc, .ldc z, n, v, a, b)) (h : vst mm (pc, .ldc z, n, v, a, b) ls st I kn cl rt) : GoI f pc (avL ls) (st.map av) I P := by
  have h : kn (pc + n) ls (.inl (true, v.toInt) :: st) I := h
  have K := hkn _ _ _ _ hls (okFS_cons (v := .inl (true, v.toInt)) (rd_in (fun _ _ => v) 0 0) hst) h
  refine GoI.of_stp hm hl ?_
  intro N M G hS
  obtain ⟨n0, r0, I0, h1, h2⟩ := K N M G hS
  refine ⟨n0, r0, I0, fun n9 hn => ?_, h2⟩
  show run n9 none f (pc + n) (avL ls) (.int v :: st.map av) (N, M, G, I) = _
  have e : av (.inl (true, v.toInt)) = .int v := by show Value.int (Int32.ofInt v.toInt) = _; rw [Int32.ofInt_toInt]
  rw [List.map_cons, e] at h1
  exact h1 n9 hn
theorem sv_iload {f : Nat} {mm : MT} {pc n a b : Nat} {v : Int32} {ls : AL} {st : List AV} {I : Mm} {P : Option Value → Mm → Prop} {kn : Nat → AL → List AV → Mm → Prop} {cl : Nat → List AV → Mm → (Option AV → Mm → Prop) → Prop} {rt : Option AV → Mm → Prop} (hm : mT f = some mm) (hls : okFL ls) (hst : okFS st) (hkn : ∀ pc ls st I, okFL ls → okFS st → kn pc ls st I → GoI f pc (avL ls) (st.map av) I P) {z : Nat} (hl : lkE (cd f) pc = some (pc, .iload z, n, v, a, b)) (h : vst mm (pc, .iload z, n, v, a, b) ls st I kn cl rt) : GoI f pc (avL ls) (st.map av) I P := by
  simp only [vst] at h
  split at h
  · rename_i q hq
    have K := hkn _ _ _ _ hls (okFS_cons (okFL_get hls hq) hst) h
    refine GoI.of_stp hm hl ?_
    intro N M G hS
    obtain ⟨n0, r0, I0, h1, h2⟩ := K N M G hS
    refine ⟨n0, r0, I0, fun n9 hn => ?_, h2⟩
    simp only [stp, avL_get hq, av]
    exact h1 n9 hn
  · exact h.elim
theorem sv_iload_n {f : Nat} {mm : MT} {pc n a b : Nat} {v : Int32} {ls : AL} {st : List AV} {I : Mm} {P : Option Value → Mm → Prop} {kn : Nat → AL → List AV → Mm → Prop} {cl : Nat → List AV → Mm → (Option AV → Mm → Prop) → Prop} {rt : Option AV → Mm → Prop} (hm : mT f = some mm) (hls : okFL ls) (hst : okFS st) (hkn : ∀ pc ls st I, okFL ls → okFS st → kn pc ls st I → GoI f pc (avL ls) (st.map av) I P) {z : Fin 4} (hl : lkE (cd f) pc = some (pc, .iload_n z, n, v, a, b)) (h : vst mm (pc, .iload_n z, n, v, a, b) ls st I kn cl rt) : GoI f pc (avL ls) (st.map av) I P := by
  simp only [vst] at h
  split at h
  · rename_i q hq
    have K := hkn _ _ _ _ hls (okFS_cons (okFL_get hls hq) hst) h
    refine GoI.of_stp hm hl ?_
    intro N M G hS
    obtain ⟨n0, r0, I0, h1, h2⟩ := K N M G hS
    refine ⟨n0, r0, I0, fun n9 hn => ?_, h2⟩
    simp only [stp, avL_get hq, av]
    exact h1 n9 hn
  · exact h.elim
theorem sv_aload {f : Nat} {mm : MT} {pc n a b : Nat} {v : Int32} {ls : AL} {st : List AV} {I : Mm} {P : Option Value → Mm → Prop} {kn : Nat → AL → List AV → Mm → Prop} {cl : Nat → List AV → Mm → (Option AV → Mm → Prop) → Prop} {rt : Option AV → Mm → Prop} (hm : mT f = some mm) (hls : okFL ls) (hst : okFS st) (hkn : ∀ pc ls st I, okFL ls → okFS st → kn pc ls st I → GoI f pc (avL ls) (st.map av) I P) {z : Nat} (hl : lkE (cd f) pc = some (pc, .aload z, n, v, a, b)) (h : vst mm (pc, .aload z, n, v, a, b) ls st I kn cl rt) : GoI f pc (avL ls) (st.map av) I P := by
  simp only [vst] at h
  split at h
  · rename_i q hq
    have K := hkn _ _ _ _ hls (okFS_cons (okFL_get hls hq) hst) h
    refine GoI.of_stp hm hl ?_
    intro N M G hS
    obtain ⟨n0, r0, I0, h1, h2⟩ := K N M G hS
    refine ⟨n0, r0, I0, fun n9 hn => ?_, h2⟩
    simp only [stp, avL_get hq, av]
    exact h1 n9 hn
  · exact h.elim
theorem sv_aload_n {f : Nat} {mm : MT} {pc n a b : Nat} {v : Int32} {ls : AL} {st : List AV} {I : Mm} {P : Option Value → Mm → Prop} {kn : Nat → AL → List AV → Mm → Prop} {cl : Nat → List AV → Mm → (Option AV → Mm → Prop) → Prop} {rt : Option AV → Mm → Prop} (hm : mT f = some mm) (hls : okFL ls) (hst : okFS st) (hkn : ∀ pc ls st I, okFL ls → okFS st → kn pc ls st I → GoI f pc (avL ls) (st.map av) I P) {z : Fin 4} (hl : lkE (cd f) pc = some (pc, .aload_n z, n, v, a, b)) (h : vst mm (pc, .aload_n z, n, v, a, b) ls st I kn cl rt) : GoI f pc (avL ls) (st.map av) I P := by
  simp only [vst] at h
  split at h
  · rename_i q hq
    have K := hkn _ _ _ _ hls (okFS_cons (okFL_get hls hq) hst) h
    refine GoI.of_stp hm hl ?_
    intro N M G hS
    obtain ⟨n0, r0, I0, h1, h2⟩ := K N M G hS
    refine ⟨n0, r0, I0, fun n9 hn => ?_, h2⟩
    simp only [stp, avL_get hq, av]
    exact h1 n9 hn
  · exact h.elim
theorem sv_istore {f : Nat} {mm : MT} {pc n a b : Nat} {v : Int32} {ls : AL} {st : List AV} {I : Mm} {P : Option Value → Mm → Prop} {kn : Nat → AL → List AV → Mm → Prop} {cl : Nat → List AV → Mm → (Option AV → Mm → Prop) → Prop} {rt : Option AV → Mm → Prop} (hm : mT f = some mm) (hls : okFL ls) (hst : okFS st) (hkn : ∀ pc ls st I, okFL ls → okFS st → kn pc ls st I → GoI f pc (avL ls) (st.map av) I P) {z : Nat} (hl : lkE (cd f) pc = some (pc, .istore z, n, v, a, b)) (h : vst mm (pc, .istore z, n, v, a, b) ls st I kn cl rt) : GoI f pc (avL ls) (st.map av) I P := by
  simp only [vst] at h
  split at h
  · rename_i q st'
    split at h
    · rename_i ha
      have K := hkn _ _ _ _ (okFL_set hls (okFS_head hst)) (okFS_tail hst) h
      rw [avL_set] at K
      refine GoI.of_stp hm hl ?_
      intro N M G hS
      obtain ⟨n0, r0, I0, h1, h2⟩ := K N M G hS
      refine ⟨n0, r0, I0, fun n9 hn => ?_, h2⟩
      simp only [stp, List.map_cons, av]
      rw [if_pos (by rw [avL_len]; exact ha)]
      exact h1 n9 hn
    · exact h.elim
  · exact h.elim
theorem sv_istore_n {f : Nat} {mm : MT} {pc n a b : Nat} {v : Int32} {ls : AL} {st : List AV} {I : Mm} {P : Option Value → Mm → Prop} {kn : Nat → AL → List AV → Mm → Prop} {cl : Nat → List AV → Mm → (Option AV → Mm → Prop) → Prop} {rt : Option AV → Mm → Prop} (hm : mT f = some mm) (hls : okFL ls) (hst : okFS st) (hkn : ∀ pc ls st I, okFL ls → okFS st → kn pc ls st I → GoI f pc (avL ls) (st.map av) I P) {z : Fin 4} (hl : lkE (cd f) pc = some (pc, .istore_n z, n, v, a, b)) (h : vst mm (pc, .istore_n z, n, v, a, b) ls st I kn cl rt) : GoI f pc (avL ls) (st.map av) I P := by
  simp only [vst] at h
  split at h
  · rename_i q st'
    split at h
    · rename_i ha
      have K := hkn _ _ _ _ (okFL_set hls (okFS_head hst)) (okFS_tail hst) h
      rw [avL_set] at K
      refine GoI.of_stp hm hl ?_
      intro N M G hS
      obtain ⟨n0, r0, I0, h1, h2⟩ := K N M G hS
      refine ⟨n0, r0, I0, fun n9 hn => ?_, h2⟩
      simp only [stp, List.map_cons, av]
      rw [if_pos (by rw [avL_len]; exact ha)]
      exact h1 n9 hn
    · exact h.elim
  · exact h.elim
theorem sv_astore {f : Nat} {mm : MT} {pc n a b : Nat} {v : Int32} {ls : AL} {st : List AV} {I : Mm} {P : Option Value → Mm → Prop} {kn : Nat → AL → List AV → Mm → Prop} {cl : Nat → List AV → Mm → (Option AV → Mm → Prop) → Prop} {rt : Option AV → Mm → Prop} (hm : mT f = some mm) (hls : okFL ls) (hst : okFS st) (hkn : ∀ pc ls st I, okFL ls → okFS st → kn pc ls st I → GoI f pc (avL ls) (st.map av) I P) {z : Nat} (hl : lkE (cd f) pc = some (pc, .astore z, n, v, a, b)) (h : vst mm (pc, .astore z, n, v, a, b) ls st I kn cl rt) : GoI f pc (avL ls) (st.map av) I P := by
  simp only [vst] at h
  split at h
  · rename_i q st'
    split at h
    · rename_i ha
      have K := hkn _ _ _ _ (okFL_set hls (okFS_head hst)) (okFS_tail hst) h
      rw [avL_set] at K
      refine GoI.of_stp hm hl ?_
      intro N M G hS
      obtain ⟨n0, r0, I0, h1, h2⟩ := K N M G hS
      refine ⟨n0, r0, I0, fun n9 hn => ?_, h2⟩
      simp only [stp, List.map_cons, av]
      rw [if_pos (by rw [avL_len]; exact ha)]
      exact h1 n9 hn
    · exact h.elim
  · exact h.elim
theorem sv_astore_n {f : Nat} {mm : MT} {pc n a b : Nat} {v : Int32} {ls : AL} {st : List AV} {I : Mm} {P : Option Value → Mm → Prop} {kn : Nat → AL → List AV → Mm → Prop} {cl : Nat → List AV → Mm → (Option AV → Mm → Prop) → Prop} {rt : Option AV → Mm → Prop} (hm : mT f = some mm) (hls : okFL ls) (hst : okFS st) (hkn : ∀ pc ls st I, okFL ls → okFS st → kn pc ls st I → GoI f pc (avL ls) (st.map av) I P) {z : Fin 4} (hl : lkE (cd f) pc = some (pc, .astore_n z, n, v, a, b)) (h : vst mm (pc, .astore_n z, n, v, a, b) ls st I kn cl rt) : GoI f pc (avL ls) (st.map av) I P := by
  simp only [vst] at h
  split at h
  · rename_i q st'
    split at h
    · rename_i ha
      have K := hkn _ _ _ _ (okFL_set hls (okFS_head hst)) (okFS_tail hst) h
      rw [avL_set] at K
      refine GoI.of_stp hm hl ?_
      intro N M G hS
      obtain ⟨n0, r0, I0, h1, h2⟩ := K N M G hS
      refine ⟨n0, r0, I0, fun n9 hn => ?_, h2⟩
      simp only [stp, List.map_cons, av]
      rw [if_pos (by rw [avL_len]; exact ha)]
      exact h1 n9 hn
    · exact h.elim
  · exact h.elim
theorem sv_iinc {f : Nat} {mm : MT} {pc n a b : Nat} {v : Int32} {ls : AL} {st : List AV} {I : Mm} {P : Option Value → Mm → Prop} {kn : Nat → AL → List AV → Mm → Prop} {cl : Nat → List AV → Mm → (Option AV → Mm → Prop) → Prop} {rt : Option AV → Mm → Prop} (hm : mT f = some mm) (hls : okFL ls) (hst : okFS st) (hkn : ∀ pc ls st I, okFL ls → okFS st → kn pc ls st I → GoI f pc (avL ls) (st.map av) I P) {z : Nat} {y : Int} (hl : lkE (cd f) pc = some (pc, .iinc z y, n, v, a, b)) (hz : okZ (pc, .iinc z y, n, v, a, b) = true) (h : vst mm (pc, .iinc z y, n, v, a, b) ls st I kn cl rt) : GoI f pc (avL ls) (st.map av) I P := by
  simp only [okZ, decide_eq_true_eq] at hz
  simp only [vst] at h
  split at h
  · rename_i q hq
    have K := hkn _ _ _ _ (okFL_set hls (okF_f _)) hst h
    rw [avL_set] at K
    refine GoI.of_stp hm hl ?_
    intro N M G hS
    obtain ⟨n0, r0, I0, h1, h2⟩ := K N M G hS
    refine ⟨n0, r0, I0, fun n9 hn => ?_, h2⟩
    simp only [stp, avL_get hq, av]
    simp only [av, Int32.ofInt_add] at h1
    rw [← hz]
    exact h1 n9 hn
  · exact h.elim
theorem sv_iadd {f : Nat} {mm : MT} {pc n a b : Nat} {v : Int32} {ls : AL} {st : List AV} {I : Mm} {P : Option Value → Mm → Prop} {kn : Nat → AL → List AV → Mm → Prop} {cl : Nat → List AV → Mm → (Option AV → Mm → Prop) → Prop} {rt : Option AV → Mm → Prop} (hm : mT f = some mm) (hls : okFL ls) (hst : okFS st) (hkn : ∀ pc ls st I, okFL ls → okFS st → kn pc ls st I → GoI f pc (avL ls) (st.map av) I P) (hl : lkE (cd f) pc = some (pc, .iadd, n, v, a, b)) (h : vst mm (pc, .iadd, n, v, a, b) ls st I kn cl rt) : GoI f pc (avL ls) (st.map av) I P := by
  simp only [vst] at h
  split at h
  · rename_i y x st'
    have K := hkn _ _ _ _ hls (okFS_cons (okF_f _) (okFS_tail (okFS_tail hst))) h
    refine GoI.of_stp hm hl ?_
    intro N M G hS
    obtain ⟨n0, r0, I0, h1, h2⟩ := K N M G hS
    refine ⟨n0, r0, I0, fun n9 hn => ?_, h2⟩
    simp only [stp, List.map_cons, av]
    simp only [List.map_cons, av, Int32.ofInt_add] at h1
    exact h1 n9 hn
  · exact h.elim
theorem sv_isub {f : Nat} {mm : MT} {pc n a b : Nat} {v : Int32} {ls : AL} {st : List AV} {I : Mm} {P : Option Value → Mm → Prop} {kn : Nat → AL → List AV → Mm → Prop} {cl : Nat → List AV → Mm → (Option AV → Mm → Prop) → Prop} {rt : Option AV → Mm → Prop} (hm : mT f = some mm) (hls : okFL ls) (hst : okFS st) (hkn : ∀ pc ls st I, okFL ls → okFS st → kn pc ls st I → GoI f pc (avL ls) (st.map av) I P) (hl : lkE (cd f) pc = some (pc, .isub, n, v, a, b)) (h : vst mm (pc, .isub, n, v, a, b) ls st I kn cl rt) : GoI f pc (avL ls) (st.map av) I P := by
  simp only [vst] at h
  split at h
  · rename_i y x st'
    have K := hkn _ _ _ _ hls (okFS_cons (okF_f _) (okFS_tail (okFS_tail hst))) h
    refine GoI.of_stp hm hl ?_
    intro N M G hS
    obtain ⟨n0, r0, I0, h1, h2⟩ := K N M G hS
    refine ⟨n0, r0, I0, fun n9 hn => ?_, h2⟩
    simp only [stp, List.map_cons, av]
    simp only [List.map_cons, av, Int32.ofInt_sub] at h1
    exact h1 n9 hn
  · exact h.elim
theorem sv_imul {f : Nat} {mm : MT} {pc n a b : Nat} {v : Int32} {ls : AL} {st : List AV} {I : Mm} {P : Option Value → Mm → Prop} {kn : Nat → AL → List AV → Mm → Prop} {cl : Nat → List AV → Mm → (Option AV → Mm → Prop) → Prop} {rt : Option AV → Mm → Prop} (hm : mT f = some mm) (hls : okFL ls) (hst : okFS st) (hkn : ∀ pc ls st I, okFL ls → okFS st → kn pc ls st I → GoI f pc (avL ls) (st.map av) I P) (hl : lkE (cd f) pc = some (pc, .imul, n, v, a, b)) (h : vst mm (pc, .imul, n, v, a, b) ls st I kn cl rt) : GoI f pc (avL ls) (st.map av) I P := by
  simp only [vst] at h
  split at h
  · rename_i y x st'
    have K := hkn _ _ _ _ hls (okFS_cons (okF_f _) (okFS_tail (okFS_tail hst))) h
    refine GoI.of_stp hm hl ?_
    intro N M G hS
    obtain ⟨n0, r0, I0, h1, h2⟩ := K N M G hS
    refine ⟨n0, r0, I0, fun n9 hn => ?_, h2⟩
    simp only [stp, List.map_cons, av]
    simp only [List.map_cons, av, Int32.ofInt_mul] at h1
    exact h1 n9 hn
  · exact h.elim
theorem sv_dup {f : Nat} {mm : MT} {pc n a b : Nat} {v : Int32} {ls : AL} {st : List AV} {I : Mm} {P : Option Value → Mm → Prop} {kn : Nat → AL → List AV → Mm → Prop} {cl : Nat → List AV → Mm → (Option AV → Mm → Prop) → Prop} {rt : Option AV → Mm → Prop} (hm : mT f = some mm) (hls : okFL ls) (hst : okFS st) (hkn : ∀ pc ls st I, okFL ls → okFS st → kn pc ls st I → GoI f pc (avL ls) (st.map av) I P) (hl : lkE (cd f) pc = some (pc, .dup, n, v, a, b)) (h : vst mm (pc, .dup, n, v, a, b) ls st I kn cl rt) : GoI f pc (avL ls) (st.map av) I P := by
  simp only [vst] at h
  split at h
  · rename_i x st'
    have K := hkn _ _ _ _ hls (okFS_cons (okFS_head hst) hst) h
    rcases x with q | q
    · refine GoI.of_stp hm hl ?_
      intro N M G hS
      obtain ⟨n0, r0, I0, h1, h2⟩ := K N M G hS
      refine ⟨n0, r0, I0, fun n9 hn => ?_, h2⟩
      simp only [stp, List.map_cons, av]
      exact h1 n9 hn
    · refine GoI.of_stp hm hl ?_
      intro N M G hS
      obtain ⟨n0, r0, I0, h1, h2⟩ := K N M G hS
      refine ⟨n0, r0, I0, fun n9 hn => ?_, h2⟩
      simp only [stp, List.map_cons, av]
      exact h1 n9 hn
  · exact h.elim
theorem sv_dup2 {f : Nat} {mm : MT} {pc n a b : Nat} {v : Int32} {ls : AL} {st : List AV} {I : Mm} {P : Option Value → Mm → Prop} {kn : Nat → AL → List AV → Mm → Prop} {cl : Nat → List AV → Mm → (Option AV → Mm → Prop) → Prop} {rt : Option AV → Mm → Prop} (hm : mT f = some mm) (hls : okFL ls) (hst : okFS st) (hkn : ∀ pc ls st I, okFL ls → okFS st → kn pc ls st I → GoI f pc (avL ls) (st.map av) I P) (hl : lkE (cd f) pc = some (pc, .dup2, n, v, a, b)) (h : vst mm (pc, .dup2, n, v, a, b) ls st I kn cl rt) : GoI f pc (avL ls) (st.map av) I P := by
  simp only [vst] at h
  split at h
  · rename_i x y st'
    have K := hkn _ _ _ _ hls (okFS_cons (okFS_head hst) (okFS_cons (okF_r _) hst)) h
    refine GoI.of_stp hm hl ?_
    intro N M G hS
    obtain ⟨n0, r0, I0, h1, h2⟩ := K N M G hS
    refine ⟨n0, r0, I0, fun n9 hn => ?_, h2⟩
    simp only [stp, List.map_cons, av]
    exact h1 n9 hn
  · exact h.elim
theorem sv_goto {f : Nat} {mm : MT} {pc n a b : Nat} {v : Int32} {ls : AL} {st : List AV} {I : Mm} {P : Option Value → Mm → Prop} {kn : Nat → AL → List AV → Mm → Prop} {cl : Nat → List AV → Mm → (Option AV → Mm → Prop) → Prop} {rt : Option AV → Mm → Prop} (hm : mT f = some mm) (hls : okFL ls) (hst : okFS st) (hkn : ∀ pc ls st I, okFL ls → okFS st → kn pc ls st I → GoI f pc (avL ls) (st.map av) I P) {z : Int} (hl : lkE (cd f) pc = some (pc, .goto z, n, v, a, b)) (h : vst mm (pc, .goto z, n, v, a, b) ls st I kn cl rt) : GoI f pc (avL ls) (st.map av) I P := by
  have h : kn a ls st I := h
  have K := hkn _ _ _ _ hls hst h
  refine GoI.of_stp hm hl ?_
  intro N M G hS
  obtain ⟨n0, r0, I0, h1, h2⟩ := K N M G hS
  refine ⟨n0, r0, I0, fun n9 hn => ?_, h2⟩
  exact h1 n9 hn
theorem sv_getfield {f : Nat} {mm : MT} {pc n a b : Nat} {v : Int32} {ls : AL} {st : List AV} {I : Mm} {P : Option Value → Mm → Prop} {kn : Nat → AL → List AV → Mm → Prop} {cl : Nat → List AV → Mm → (Option AV → Mm → Prop) → Prop} {rt : Option AV → Mm → Prop} (hm : mT f = some mm) (hls : okFL ls) (hst : okFS st) (hkn : ∀ pc ls st I, okFL ls → okFS st → kn pc ls st I → GoI f pc (avL ls) (st.map av) I P) {z : Nat} (hl : lkE (cd f) pc = some (pc, .getfield z, n, v, a, b)) (h : vst mm (pc, .getfield z, n, v, a, b) ls st I kn cl rt) : GoI f pc (avL ls) (st.map av) I P := by
  simp only [vst] at h
  split at h
  · rename_i rr st'
    obtain ⟨hA, h⟩ := h
    split at h
    · rename_i hft
      split at h
      · rename_i q hq
        have K := hkn _ _ _ _ hls (okFS_cons (okF_r q) (okFS_tail hst)) h
        refine GoI.of_stp hm hl ?_
        intro N M G hS
        obtain ⟨n0, r0, I0, h1, h2⟩ := K N M G hS
        refine ⟨n0, r0, I0, fun n9 hn => ?_, h2⟩
        simp only [stp, List.map_cons, av]
        rw [if_pos (shC hS hA), hft]
        rw [(hS.2 rr hA.1).2.2 _ _ hq]
        exact h1 n9 hn
      · exact h.elim
    · rename_i t hne hft
      have K := hkn _ _ _ _ hls (okFS_cons (v := .inl (true, rd I rr b)) (rd_in I rr b) (okFS_tail hst)) h
      refine GoI.of_stp hm hl ?_
      intro N M G hS
      obtain ⟨n0, r0, I0, h1, h2⟩ := K N M G hS
      refine ⟨n0, r0, I0, fun n9 hn => ?_, h2⟩
      simp only [stp, List.map_cons, av]
      rw [if_pos (shC hS hA)]
      simp only [List.map_cons, av, of_rd] at h1
      split
      · rename_i h9; rw [hft] at h9; cases h9; exact absurd rfl hne
      · exact h1 n9 hn
      · rename_i h9; rw [hft] at h9; cases h9
    · exact h.elim
  · exact h.elim
theorem sv_putfield {f : Nat} {mm : MT} {pc n a b : Nat} {v : Int32} {ls : AL} {st : List AV} {I : Mm} {P : Option Value → Mm → Prop} {kn : Nat → AL → List AV → Mm → Prop} {cl : Nat → List AV → Mm → (Option AV → Mm → Prop) → Prop} {rt : Option AV → Mm → Prop} (hm : mT f = some mm) (hls : okFL ls) (hst : okFS st) (hkn : ∀ pc ls st I, okFL ls → okFS st → kn pc ls st I → GoI f pc (avL ls) (st.map av) I P) {z : Nat} (hl : lkE (cd f) pc = some (pc, .putfield z, n, v, a, b)) (h : vst mm (pc, .putfield z, n, v, a, b) ls st I kn cl rt) : GoI f pc (avL ls) (st.map av) I P := by
  simp only [vst] at h
  split at h
  · rename_i x rr st'
    obtain ⟨hA, h⟩ := h
    split at h
    · rename_i hft
      have K := hkn _ _ _ _ hls (okFS_tail (okFS_tail hst)) h
      refine GoI.of_stp hm hl ?_
      intro N M G hS
      obtain ⟨n0, r0, I0, h1, h2⟩ := K N M G hS
      refine ⟨n0, r0, I0, fun n9 hn => ?_, h2⟩
      simp only [stp, List.map_cons, av]
      rw [if_pos (shC hS hA), hft]
      exact h1 n9 hn
    · rename_i hft
      have K := hkn _ _ _ _ hls (okFS_tail (okFS_tail hst)) h.2
      refine GoI.of_stp hm hl ?_
      intro N M G hS
      obtain ⟨n0, r0, I0, h1, h2⟩ := K N M G hS
      refine ⟨n0, r0, I0, fun n9 hn => ?_, h2⟩
      simp only [stp, List.map_cons, av]
      rw [if_pos (shC hS hA), hft]
      rw [if_pos (bo_wr (by rw [← vi_wr (okFS_head hst)]; exact h.1))]
      exact h1 n9 hn
    · exact h.elim
  · exact h.elim
theorem sv_iaload {f : Nat} {mm : MT} {pc n a b : Nat} {v : Int32} {ls : AL} {st : List AV} {I : Mm} {P : Option Value → Mm → Prop} {kn : Nat → AL → List AV → Mm → Prop} {cl : Nat → List AV → Mm → (Option AV → Mm → Prop) → Prop} {rt : Option AV → Mm → Prop} (hm : mT f = some mm) (hls : okFL ls) (hst : okFS st) (hkn : ∀ pc ls st I, okFL ls → okFS st → kn pc ls st I → GoI f pc (avL ls) (st.map av) I P) (hl : lkE (cd f) pc = some (pc, .iaload, n, v, a, b)) (h : vst mm (pc, .iaload, n, v, a, b) ls st I kn cl rt) : GoI f pc (avL ls) (st.map av) I P := by
  simp only [vst] at h
  split at h
  · rename_i i rr st'
    obtain ⟨hA, hb, h⟩ := h
    rw [vi_wr (okFS_head hst)] at hb h
    have K := hkn _ _ _ _ hls (okFS_cons (v := .inl (true, rd I rr (wr i.2).toNat)) (rd_in I rr _) (okFS_tail (okFS_tail hst))) h
    refine GoI.of_stp hm hl ?_
    intro N M G hS
    obtain ⟨n0, r0, I0, h1, h2⟩ := K N M G hS
    refine ⟨n0, r0, I0, fun n9 hn => ?_, h2⟩
    simp only [stp, List.map_cons, av]
    rw [if_pos (shC hS hA), if_neg (by rw [(hS.2 rr hA.1).2.1]; exact not_ibd hb)]
    simp only [List.map_cons, av, of_rd] at h1
    exact h1 n9 hn
  · exact h.elim
theorem sv_baload {f : Nat} {mm : MT} {pc n a b : Nat} {v : Int32} {ls : AL} {st : List AV} {I : Mm} {P : Option Value → Mm → Prop} {kn : Nat → AL → List AV → Mm → Prop} {cl : Nat → List AV → Mm → (Option AV → Mm → Prop) → Prop} {rt : Option AV → Mm → Prop} (hm : mT f = some mm) (hls : okFL ls) (hst : okFS st) (hkn : ∀ pc ls st I, okFL ls → okFS st → kn pc ls st I → GoI f pc (avL ls) (st.map av) I P) (hl : lkE (cd f) pc = some (pc, .baload, n, v, a, b)) (h : vst mm (pc, .baload, n, v, a, b) ls st I kn cl rt) : GoI f pc (avL ls) (st.map av) I P := by
  simp only [vst] at h
  split at h
  · rename_i i rr st'
    obtain ⟨hA, hb, h⟩ := h
    rw [vi_wr (okFS_head hst)] at hb h
    have K := hkn _ _ _ _ hls (okFS_cons (v := .inl (true, rd I rr (wr i.2).toNat)) (rd_in I rr _) (okFS_tail (okFS_tail hst))) h
    refine GoI.of_stp hm hl ?_
    intro N M G hS
    obtain ⟨n0, r0, I0, h1, h2⟩ := K N M G hS
    refine ⟨n0, r0, I0, fun n9 hn => ?_, h2⟩
    simp only [stp, List.map_cons, av]
    rw [if_pos (shC hS hA), if_neg (by rw [(hS.2 rr hA.1).2.1]; exact not_ibd hb)]
    simp only [List.map_cons, av, of_rd] at h1
    exact h1 n9 hn
  · exact h.elim
theorem sv_iastore {f : Nat} {mm : MT} {pc n a b : Nat} {v : Int32} {ls : AL} {st : List AV} {I : Mm} {P : Option Value → Mm → Prop} {kn : Nat → AL → List AV → Mm → Prop} {cl : Nat → List AV → Mm → (Option AV → Mm → Prop) → Prop} {rt : Option AV → Mm → Prop} (hm : mT f = some mm) (hls : okFL ls) (hst : okFS st) (hkn : ∀ pc ls st I, okFL ls → okFS st → kn pc ls st I → GoI f pc (avL ls) (st.map av) I P) (hl : lkE (cd f) pc = some (pc, .iastore, n, v, a, b)) (h : vst mm (pc, .iastore, n, v, a, b) ls st I kn cl rt) : GoI f pc (avL ls) (st.map av) I P := by
  simp only [vst] at h
  split at h
  · rename_i x i rr st'
    obtain ⟨hA, hb, h⟩ := h
    rw [vi_wr (okFS_head (okFS_tail hst))] at hb h
    have K := hkn _ _ _ _ hls (okFS_tail (okFS_tail (okFS_tail hst))) h
    refine GoI.of_stp hm hl ?_
    intro N M G hS
    obtain ⟨n0, r0, I0, h1, h2⟩ := K N M G hS
    refine ⟨n0, r0, I0, fun n9 hn => ?_, h2⟩
    simp only [stp, List.map_cons, av]
    rw [if_pos (shC hS hA), if_neg (by rw [(hS.2 rr hA.1).2.1]; exact not_ibd hb)]
    exact h1 n9 hn
  · exact h.elim
theorem sv_bastore {f : Nat} {mm : MT} {pc n a b : Nat} {v : Int32} {ls : AL} {st : List AV} {I : Mm} {P : Option Value → Mm → Prop} {kn : Nat → AL → List AV → Mm → Prop} {cl : Nat → List AV → Mm → (Option AV → Mm → Prop) → Prop} {rt : Option AV → Mm → Prop} (hm : mT f = some mm) (hls : okFL ls) (hst : okFS st) (hkn : ∀ pc ls st I, okFL ls → okFS st → kn pc ls st I → GoI f pc (avL ls) (st.map av) I P) (hl : lkE (cd f) pc = some (pc, .bastore, n, v, a, b)) (h : vst mm (pc, .bastore, n, v, a, b) ls st I kn cl rt) : GoI f pc (avL ls) (st.map av) I P := by
  simp only [vst] at h
  split at h
  · rename_i x i rr st'
    obtain ⟨hA, hb, hx, h⟩ := h
    rw [vi_wr (okFS_head (okFS_tail hst))] at hb h
    rw [vi_wr (okFS_head hst)] at hx
    have K := hkn _ _ _ _ hls (okFS_tail (okFS_tail (okFS_tail hst))) h
    refine GoI.of_stp hm hl ?_
    intro N M G hS
    obtain ⟨n0, r0, I0, h1, h2⟩ := K N M G hS
    refine ⟨n0, r0, I0, fun n9 hn => ?_, h2⟩
    simp only [stp, List.map_cons, av]
    rw [if_pos ⟨shC hS hA, bo_wr hx⟩, if_neg (by rw [(hS.2 rr hA.1).2.1]; exact not_ibd hb)]
    exact h1 n9 hn
  · exact h.elim
theorem sv_aaload {f : Nat} {mm : MT} {pc n a b : Nat} {v : Int32} {ls : AL} {st : List AV} {I : Mm} {P : Option Value → Mm → Prop} {kn : Nat → AL → List AV → Mm → Prop} {cl : Nat → List AV → Mm → (Option AV → Mm → Prop) → Prop} {rt : Option AV → Mm → Prop} (hm : mT f = some mm) (hls : okFL ls) (hst : okFS st) (hkn : ∀ pc ls st I, okFL ls → okFS st → kn pc ls st I → GoI f pc (avL ls) (st.map av) I P) (hl : lkE (cd f) pc = some (pc, .aaload, n, v, a, b)) (h : vst mm (pc, .aaload, n, v, a, b) ls st I kn cl rt) : GoI f pc (avL ls) (st.map av) I P := by
  simp only [vst] at h
  split at h
  · rename_i i rr st'
    obtain ⟨hA, hb, h⟩ := h
    rw [vi_wr (okFS_head hst)] at hb h
    have hr : rr < 260 := hA.elim (fun z => z.1) (fun z => z.1)
    split at h
    · rename_i q hq
      have K := hkn _ _ _ _ hls (okFS_cons (okF_r q) (okFS_tail (okFS_tail hst))) h
      refine GoI.of_stp hm hl ?_
      intro N M G hS
      obtain ⟨n0, r0, I0, h1, h2⟩ := K N M G hS
      refine ⟨n0, r0, I0, fun n9 hn => ?_, h2⟩
      simp only [stp, List.map_cons, av]
      rw [if_pos (hA.elim (fun z => Or.inl (shC hS z)) (fun z => Or.inr (shC hS z))), if_neg (by rw [(hS.2 rr hr).2.1]; exact not_ibd hb)]
      rw [clamp_wr hb.1, (hS.2 rr hr).2.2 _ _ hq]
      exact h1 n9 hn
    · exact h.elim
  · exact h.elim
theorem sv_alen {f : Nat} {mm : MT} {pc n a b : Nat} {v : Int32} {ls : AL} {st : List AV} {I : Mm} {P : Option Value → Mm → Prop} {kn : Nat → AL → List AV → Mm → Prop} {cl : Nat → List AV → Mm → (Option AV → Mm → Prop) → Prop} {rt : Option AV → Mm → Prop} (hm : mT f = some mm) (hls : okFL ls) (hst : okFS st) (hkn : ∀ pc ls st I, okFL ls → okFS st → kn pc ls st I → GoI f pc (avL ls) (st.map av) I P) (hl : lkE (cd f) pc = some (pc, .arraylength, n, v, a, b)) (h : vst mm (pc, .arraylength, n, v, a, b) ls st I kn cl rt) : GoI f pc (avL ls) (st.map av) I P := by
  simp only [vst] at h
  split at h
  · rename_i rr st'
    obtain ⟨hA, h⟩ := h
    have K := hkn _ _ _ _ hls (okFS_cons (v := .inl (true, (sln rr : Int))) (sln_in rr) (okFS_tail hst)) h
    refine GoI.of_stp hm hl ?_
    intro N M G hS
    obtain ⟨n0, r0, I0, h1, h2⟩ := K N M G hS
    refine ⟨n0, r0, I0, fun n9 hn => ?_, h2⟩
    simp only [stp, List.map_cons, av]
    rw [if_pos (shC hS hA), (hS.2 rr hA.1).2.1]
    exact h1 n9 hn
  · exact h.elim
theorem sv_ifCond {f : Nat} {mm : MT} {pc n a b : Nat} {v : Int32} {ls : AL} {st : List AV} {I : Mm} {P : Option Value → Mm → Prop} {kn : Nat → AL → List AV → Mm → Prop} {cl : Nat → List AV → Mm → (Option AV → Mm → Prop) → Prop} {rt : Option AV → Mm → Prop} (hm : mT f = some mm) (hls : okFL ls) (hst : okFS st) (hkn : ∀ pc ls st I, okFL ls → okFS st → kn pc ls st I → GoI f pc (avL ls) (st.map av) I P) {cc : ClassFile.Cond} {z : Int} (hl : lkE (cd f) pc = some (pc, .ifCond cc z, n, v, a, b)) (h : vst mm (pc, .ifCond cc z, n, v, a, b) ls st I kn cl rt) : GoI f pc (avL ls) (st.map av) I P := by
  simp only [vst] at h
  split at h
  · rename_i x st'
    rw [vi_wr (okFS_head hst)] at h
    cases cc
    · by_cases hc : wr x.2 = 0
      · have K := hkn _ _ _ _ hls (okFS_tail hst) (h.1 hc)
        refine GoI.of_stp hm hl ?_
        intro N M G hS
        obtain ⟨n0, r0, I0, h1, h2⟩ := K N M G hS
        refine ⟨n0, r0, I0, fun n9 hn => ?_, h2⟩
        simp only [stp, List.map_cons, av]
        rw [if_pos ((i_eq0 x.2).mpr hc)]
        exact h1 n9 hn
      · have K := hkn _ _ _ _ hls (okFS_tail hst) (h.2 hc)
        refine GoI.of_stp hm hl ?_
        intro N M G hS
        obtain ⟨n0, r0, I0, h1, h2⟩ := K N M G hS
        refine ⟨n0, r0, I0, fun n9 hn => ?_, h2⟩
        simp only [stp, List.map_cons, av]
        rw [if_neg (fun z => hc ((i_eq0 x.2).mp z))]
        exact h1 n9 hn
    · by_cases hc : wr x.2 = 0
      · have K := hkn _ _ _ _ hls (okFS_tail hst) (h.1 hc)
        refine GoI.of_stp hm hl ?_
        intro N M G hS
        obtain ⟨n0, r0, I0, h1, h2⟩ := K N M G hS
        refine ⟨n0, r0, I0, fun n9 hn => ?_, h2⟩
        simp only [stp, List.map_cons, av]
        rw [if_pos ((i_eq0 x.2).mpr hc)]
        exact h1 n9 hn
      · have K := hkn _ _ _ _ hls (okFS_tail hst) (h.2 hc)
        refine GoI.of_stp hm hl ?_
        intro N M G hS
        obtain ⟨n0, r0, I0, h1, h2⟩ := K N M G hS
        refine ⟨n0, r0, I0, fun n9 hn => ?_, h2⟩
        simp only [stp, List.map_cons, av]
        rw [if_neg (fun z => hc ((i_eq0 x.2).mp z))]
        exact h1 n9 hn
    · by_cases hc : wr x.2 < 0
      · have K := hkn _ _ _ _ hls (okFS_tail hst) (h.1 hc)
        refine GoI.of_stp hm hl ?_
        intro N M G hS
        obtain ⟨n0, r0, I0, h1, h2⟩ := K N M G hS
        refine ⟨n0, r0, I0, fun n9 hn => ?_, h2⟩
        simp only [stp, List.map_cons, av]
        rw [if_pos ((i_lt0 x.2).mpr hc)]
        exact h1 n9 hn
      · have K := hkn _ _ _ _ hls (okFS_tail hst) (h.2 hc)
        refine GoI.of_stp hm hl ?_
        intro N M G hS
        obtain ⟨n0, r0, I0, h1, h2⟩ := K N M G hS
        refine ⟨n0, r0, I0, fun n9 hn => ?_, h2⟩
        simp only [stp, List.map_cons, av]
        rw [if_neg (fun z => hc ((i_lt0 x.2).mp z))]
        exact h1 n9 hn
    · by_cases hc : 0 ≤ wr x.2
      · have K := hkn _ _ _ _ hls (okFS_tail hst) (h.1 hc)
        refine GoI.of_stp hm hl ?_
        intro N M G hS
        obtain ⟨n0, r0, I0, h1, h2⟩ := K N M G hS
        refine ⟨n0, r0, I0, fun n9 hn => ?_, h2⟩
        simp only [stp, List.map_cons, av]
        rw [if_pos ((i_ge0 x.2).mpr hc)]
        exact h1 n9 hn
      · have K := hkn _ _ _ _ hls (okFS_tail hst) (h.2 hc)
        refine GoI.of_stp hm hl ?_
        intro N M G hS
        obtain ⟨n0, r0, I0, h1, h2⟩ := K N M G hS
        refine ⟨n0, r0, I0, fun n9 hn => ?_, h2⟩
        simp only [stp, List.map_cons, av]
        rw [if_neg (fun z => hc ((i_ge0 x.2).mp z))]
        exact h1 n9 hn
    · by_cases hc : 0 < wr x.2
      · have K := hkn _ _ _ _ hls (okFS_tail hst) (h.1 hc)
        refine GoI.of_stp hm hl ?_
        intro N M G hS
        obtain ⟨n0, r0, I0, h1, h2⟩ := K N M G hS
        refine ⟨n0, r0, I0, fun n9 hn => ?_, h2⟩
        simp only [stp, List.map_cons, av]
        rw [if_pos ((i_gt0 x.2).mpr hc)]
        exact h1 n9 hn
      · have K := hkn _ _ _ _ hls (okFS_tail hst) (h.2 hc)
        refine GoI.of_stp hm hl ?_
        intro N M G hS
        obtain ⟨n0, r0, I0, h1, h2⟩ := K N M G hS
        refine ⟨n0, r0, I0, fun n9 hn => ?_, h2⟩
        simp only [stp, List.map_cons, av]
        rw [if_neg (fun z => hc ((i_gt0 x.2).mp z))]
        exact h1 n9 hn
    · by_cases hc : wr x.2 ≤ 0
      · have K := hkn _ _ _ _ hls (okFS_tail hst) (h.1 hc)
        refine GoI.of_stp hm hl ?_
        intro N M G hS
        obtain ⟨n0, r0, I0, h1, h2⟩ := K N M G hS
        refine ⟨n0, r0, I0, fun n9 hn => ?_, h2⟩
        simp only [stp, List.map_cons, av]
        rw [if_pos ((i_le0 x.2).mpr hc)]
        exact h1 n9 hn
      · have K := hkn _ _ _ _ hls (okFS_tail hst) (h.2 hc)
        refine GoI.of_stp hm hl ?_
        intro N M G hS
        obtain ⟨n0, r0, I0, h1, h2⟩ := K N M G hS
        refine ⟨n0, r0, I0, fun n9 hn => ?_, h2⟩
        simp only [stp, List.map_cons, av]
        rw [if_neg (fun z => hc ((i_le0 x.2).mp z))]
        exact h1 n9 hn
  · exact h.elim
theorem sv_icmp {f : Nat} {mm : MT} {pc n a b : Nat} {v : Int32} {ls : AL} {st : List AV} {I : Mm} {P : Option Value → Mm → Prop} {kn : Nat → AL → List AV → Mm → Prop} {cl : Nat → List AV → Mm → (Option AV → Mm → Prop) → Prop} {rt : Option AV → Mm → Prop} (hm : mT f = some mm) (hls : okFL ls) (hst : okFS st) (hkn : ∀ pc ls st I, okFL ls → okFS st → kn pc ls st I → GoI f pc (avL ls) (st.map av) I P) {cc : ClassFile.Cond} {z : Int} (hl : lkE (cd f) pc = some (pc, .if_icmp cc z, n, v, a, b)) (h : vst mm (pc, .if_icmp cc z, n, v, a, b) ls st I kn cl rt) : GoI f pc (avL ls) (st.map av) I P := by
  simp only [vst] at h
  split at h
  · rename_i y x st'
    rw [vi_wr (okFS_head hst), vi_wr (okFS_head (okFS_tail hst))] at h
    cases cc
    · by_cases hc : wr x.2 = wr y.2
      · have K := hkn _ _ _ _ hls (okFS_tail (okFS_tail hst)) (h.1 hc)
        refine GoI.of_stp hm hl ?_
        intro N M G hS
        obtain ⟨n0, r0, I0, h1, h2⟩ := K N M G hS
        refine ⟨n0, r0, I0, fun n9 hn => ?_, h2⟩
        simp only [stp, List.map_cons, av]
        rw [if_pos ((i_eq x.2 y.2).mpr hc)]
        exact h1 n9 hn
      · have K := hkn _ _ _ _ hls (okFS_tail (okFS_tail hst)) (h.2 hc)
        refine GoI.of_stp hm hl ?_
        intro N M G hS
        obtain ⟨n0, r0, I0, h1, h2⟩ := K N M G hS
        refine ⟨n0, r0, I0, fun n9 hn => ?_, h2⟩
        simp only [stp, List.map_cons, av]
        rw [if_neg (fun z => hc ((i_eq x.2 y.2).mp z))]
        exact h1 n9 hn
    · by_cases hc : wr x.2 = wr y.2
      · have K := hkn _ _ _ _ hls (okFS_tail (okFS_tail hst)) (h.1 hc)
        refine GoI.of_stp hm hl ?_
        intro N M G hS
        obtain ⟨n0, r0, I0, h1, h2⟩ := K N M G hS
        refine ⟨n0, r0, I0, fun n9 hn => ?_, h2⟩
        simp only [stp, List.map_cons, av]
        rw [if_pos ((i_eq x.2 y.2).mpr hc)]
        exact h1 n9 hn
      · have K := hkn _ _ _ _ hls (okFS_tail (okFS_tail hst)) (h.2 hc)
        refine GoI.of_stp hm hl ?_
        intro N M G hS
        obtain ⟨n0, r0, I0, h1, h2⟩ := K N M G hS
        refine ⟨n0, r0, I0, fun n9 hn => ?_, h2⟩
        simp only [stp, List.map_cons, av]
        rw [if_neg (fun z => hc ((i_eq x.2 y.2).mp z))]
        exact h1 n9 hn
    · by_cases hc : wr x.2 < wr y.2
      · have K := hkn _ _ _ _ hls (okFS_tail (okFS_tail hst)) (h.1 hc)
        refine GoI.of_stp hm hl ?_
        intro N M G hS
        obtain ⟨n0, r0, I0, h1, h2⟩ := K N M G hS
        refine ⟨n0, r0, I0, fun n9 hn => ?_, h2⟩
        simp only [stp, List.map_cons, av]
        rw [if_pos ((i_lt x.2 y.2).mpr hc)]
        exact h1 n9 hn
      · have K := hkn _ _ _ _ hls (okFS_tail (okFS_tail hst)) (h.2 hc)
        refine GoI.of_stp hm hl ?_
        intro N M G hS
        obtain ⟨n0, r0, I0, h1, h2⟩ := K N M G hS
        refine ⟨n0, r0, I0, fun n9 hn => ?_, h2⟩
        simp only [stp, List.map_cons, av]
        rw [if_neg (fun z => hc ((i_lt x.2 y.2).mp z))]
        exact h1 n9 hn
    · by_cases hc : wr y.2 ≤ wr x.2
      · have K := hkn _ _ _ _ hls (okFS_tail (okFS_tail hst)) (h.1 hc)
        refine GoI.of_stp hm hl ?_
        intro N M G hS
        obtain ⟨n0, r0, I0, h1, h2⟩ := K N M G hS
        refine ⟨n0, r0, I0, fun n9 hn => ?_, h2⟩
        simp only [stp, List.map_cons, av]
        rw [if_pos ((i_le y.2 x.2).mpr hc)]
        exact h1 n9 hn
      · have K := hkn _ _ _ _ hls (okFS_tail (okFS_tail hst)) (h.2 hc)
        refine GoI.of_stp hm hl ?_
        intro N M G hS
        obtain ⟨n0, r0, I0, h1, h2⟩ := K N M G hS
        refine ⟨n0, r0, I0, fun n9 hn => ?_, h2⟩
        simp only [stp, List.map_cons, av]
        rw [if_neg (fun z => hc ((i_le y.2 x.2).mp z))]
        exact h1 n9 hn
    · by_cases hc : wr y.2 < wr x.2
      · have K := hkn _ _ _ _ hls (okFS_tail (okFS_tail hst)) (h.1 hc)
        refine GoI.of_stp hm hl ?_
        intro N M G hS
        obtain ⟨n0, r0, I0, h1, h2⟩ := K N M G hS
        refine ⟨n0, r0, I0, fun n9 hn => ?_, h2⟩
        simp only [stp, List.map_cons, av]
        rw [if_pos ((i_lt y.2 x.2).mpr hc)]
        exact h1 n9 hn
      · have K := hkn _ _ _ _ hls (okFS_tail (okFS_tail hst)) (h.2 hc)
        refine GoI.of_stp hm hl ?_
        intro N M G hS
        obtain ⟨n0, r0, I0, h1, h2⟩ := K N M G hS
        refine ⟨n0, r0, I0, fun n9 hn => ?_, h2⟩
        simp only [stp, List.map_cons, av]
        rw [if_neg (fun z => hc ((i_lt y.2 x.2).mp z))]
        exact h1 n9 hn
    · by_cases hc : wr x.2 ≤ wr y.2
      · have K := hkn _ _ _ _ hls (okFS_tail (okFS_tail hst)) (h.1 hc)
        refine GoI.of_stp hm hl ?_
        intro N M G hS
        obtain ⟨n0, r0, I0, h1, h2⟩ := K N M G hS
        refine ⟨n0, r0, I0, fun n9 hn => ?_, h2⟩
        simp only [stp, List.map_cons, av]
        rw [if_pos ((i_le x.2 y.2).mpr hc)]
        exact h1 n9 hn
      · have K := hkn _ _ _ _ hls (okFS_tail (okFS_tail hst)) (h.2 hc)
        refine GoI.of_stp hm hl ?_
        intro N M G hS
        obtain ⟨n0, r0, I0, h1, h2⟩ := K N M G hS
        refine ⟨n0, r0, I0, fun n9 hn => ?_, h2⟩
        simp only [stp, List.map_cons, av]
        rw [if_neg (fun z => hc ((i_le x.2 y.2).mp z))]
        exact h1 n9 hn
  · exact h.elim
theorem sv_idiv {f : Nat} {mm : MT} {pc n a b : Nat} {v : Int32} {ls : AL} {st : List AV} {I : Mm} {P : Option Value → Mm → Prop} {kn : Nat → AL → List AV → Mm → Prop} {cl : Nat → List AV → Mm → (Option AV → Mm → Prop) → Prop} {rt : Option AV → Mm → Prop} (hm : mT f = some mm) (hls : okFL ls) (hst : okFS st) (hkn : ∀ pc ls st I, okFL ls → okFS st → kn pc ls st I → GoI f pc (avL ls) (st.map av) I P) (hl : lkE (cd f) pc = some (pc, .idiv, n, v, a, b)) (h : vst mm (pc, .idiv, n, v, a, b) ls st I kn cl rt) : GoI f pc (avL ls) (st.map av) I P := by
  simp only [vst] at h
  split at h
  · rename_i y x st'
    rw [vi_wr (okFS_head hst), vi_wr (okFS_head (okFS_tail hst))] at h
    obtain ⟨⟨h0, h9⟩, h⟩ := h
    have K := hkn _ _ _ _ hls (okFS_cons (v := .inl (true, wr x.2 / wr y.2)) (div_in (wr_in _) h0 h9) (okFS_tail (okFS_tail hst))) h
    refine GoI.of_stp hm hl ?_
    intro N M G hS
    obtain ⟨n0, r0, I0, h1, h2⟩ := K N M G hS
    refine ⟨n0, r0, I0, fun n9 hn => ?_, h2⟩
    simp only [stp, List.map_cons, av]
    rw [if_neg (nz_of h9), div_wr h0 h9]
    exact h1 n9 hn
  · exact h.elim
theorem sv_irem {f : Nat} {mm : MT} {pc n a b : Nat} {v : Int32} {ls : AL} {st : List AV} {I : Mm} {P : Option Value → Mm → Prop} {kn : Nat → AL → List AV → Mm → Prop} {cl : Nat → List AV → Mm → (Option AV → Mm → Prop) → Prop} {rt : Option AV → Mm → Prop} (hm : mT f = some mm) (hls : okFL ls) (hst : okFS st) (hkn : ∀ pc ls st I, okFL ls → okFS st → kn pc ls st I → GoI f pc (avL ls) (st.map av) I P) (hl : lkE (cd f) pc = some (pc, .irem, n, v, a, b)) (h : vst mm (pc, .irem, n, v, a, b) ls st I kn cl rt) : GoI f pc (avL ls) (st.map av) I P := by
  simp only [vst] at h
  split at h
  · rename_i y x st'
    rw [vi_wr (okFS_head hst), vi_wr (okFS_head (okFS_tail hst))] at h
    obtain ⟨⟨h0, h9⟩, h⟩ := h
    have K := hkn _ _ _ _ hls (okFS_cons (v := .inl (true, wr x.2 % wr y.2)) (mod_in (wr_in _) h0 h9) (okFS_tail (okFS_tail hst))) h
    refine GoI.of_stp hm hl ?_
    intro N M G hS
    obtain ⟨n0, r0, I0, h1, h2⟩ := K N M G hS
    refine ⟨n0, r0, I0, fun n9 hn => ?_, h2⟩
    simp only [stp, List.map_cons, av]
    rw [if_neg (nz_of h9), mod_wr h0 h9]
    exact h1 n9 hn
  · exact h.elim
