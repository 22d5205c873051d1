def clR (n : Nat) : Nat → List Value → Sg → Rs := fun g as τ => match mT g with
  | none => none
  | some mg => run n none g 0 (entL mg as) [] τ
theorem GoI.of_stp {f pc : Nat} {mm : MT} {en : En} {ls : Lc} {st : List Value} {I : Mm} {P : Option Value → Mm → Prop} (hm : mT f = some mm) (hl : lkE (cd f) pc = some en) (h : ∀ (N M : Nat) (G : Gm), Shp N G → ∃ (n0 : Nat) (r : Option Value) (I' : Mm), (∀ n, n0 ≤ n → stp none (clR n) (run n none f) mm en ls st (N, M, G, I) = some (r, (N, M, G, I'))) ∧ P r I') : GoI f pc ls st I P := by
  intro N M G hS
  obtain ⟨n0, r, I', a, b⟩ := h N M G hS
  refine ⟨n0 + 1, r, I', fun n hn => ?_, b⟩
  cases n with
  | zero => omega
  | succ n =>
    unfold run
    rw [hm]
    dsimp only
    rw [hl]
    exact a n (by omega)
def okZ (e : En) : Bool := match e with
  | (_, i, _, v, _, _) => match i with
    | .iconst z | .bipush z | .sipush z => decide (Int32.ofInt z = v) && decide (-2147483648 ≤ z) && decide (z < 2147483648)
    | .iinc _ z => decide (Int32.ofInt z = v)
    | .tableswitch _ lo hi offs => decide ((offs.toList.length : Int) = hi - lo + 1)
    | _ => true
def sorB : Nat → List En → Bool
  | _, [] => true
  | lo, e :: es => decide (lo ≤ e.1) && sorB (e.1 + 1) es
theorem cdAll (P : List En → Bool) (h0 : P [] = true) (h : (cd0 ++ (cd1 ++ (cd2 ++ (cd3 ++ (cd4 ++ (cd5 ++ (cd6 ++ cd7))))))).all P = true) (f : Nat) : P (cd f) = true := by
  have key : ∀ (l : List (List En)), (∀ k ∈ l, P k = true) → ∀ i : Nat, P ((l[i]?).getD []) = true := by
    intro l hl i
    cases hc : l[i]? with
    | none => exact h0
    | some k => exact hl k (List.mem_of_getElem? hc)
  have h := List.all_eq_true.mp h
  simp only [List.mem_append] at h
  unfold cd
  split
  · exact key _ (fun k hk => h k (Or.inl hk)) _
  · exact key _ (fun k hk => h k (Or.inr (Or.inl hk))) _
  · exact key _ (fun k hk => h k (Or.inr (Or.inr (Or.inl hk)))) _
  · exact key _ (fun k hk => h k (Or.inr (Or.inr (Or.inr (Or.inl hk))))) _
  · exact key _ (fun k hk => h k (Or.inr (Or.inr (Or.inr (Or.inr (Or.inl hk)))))) _
  · exact key _ (fun k hk => h k (Or.inr (Or.inr (Or.inr (Or.inr (Or.inr (Or.inl hk))))))) _
  · exact key _ (fun k hk => h k (Or.inr (Or.inr (Or.inr (Or.inr (Or.inr (Or.inr (Or.inl hk)))))))) _
  · exact key _ (fun k hk => h k (Or.inr (Or.inr (Or.inr (Or.inr (Or.inr (Or.inr (Or.inr hk)))))))) _
  · exact h0
set_option maxRecDepth 100000 in
theorem okZ_all (f : Nat) : (cd f).all okZ = true := cdAll (fun k => k.all okZ) rfl (by decide +kernel) f
set_option maxRecDepth 100000 in
theorem sorB_all (f : Nat) : sorB 0 (cd f) = true := cdAll (sorB 0) rfl (by decide +kernel) f
theorem sorB_ge : ∀ {k : List En} {lo : Nat} {e : En}, sorB lo k = true → e ∈ k → lo ≤ e.1
  | [], lo, e, _, h => absurd h List.not_mem_nil
  | q :: k, lo, e, hs, h => by
    simp only [sorB, Bool.and_eq_true, decide_eq_true_eq] at hs
    rcases List.mem_cons.mp h with rfl | h
    · exact hs.1
    · have := sorB_ge hs.2 h
      omega
theorem lkE_mem : ∀ {k : List En} {lo : Nat} {e : En}, sorB lo k = true → e ∈ k → lkE k e.1 = some e
  | [], lo, e, _, h => absurd h List.not_mem_nil
  | q :: k, lo, e, hs, h => by
    simp only [sorB, Bool.and_eq_true] at hs
    unfold lkE
    rcases List.mem_cons.mp h with rfl | h
    · rw [if_pos rfl]
    · have := sorB_ge hs.2 h
      rw [if_neg (by omega)]
      exact lkE_mem hs.2 h
theorem avL_get {ls : AL} {a : Nat} {v : AV} (h : ls[a]? = some (some v)) : (avL ls)[a]? = some (some (av v)) := by
  simp [avL, h]
theorem avL_set (ls : AL) (a : Nat) (v : AV) : avL (ls.set a (some v)) = (avL ls).set a (some (av v)) := by
  simp [avL, List.map_set]
theorem avL_len (ls : AL) : (avL ls).length = ls.length := by simp [avL]
theorem okFL_set {ls : AL} {a : Nat} {v : AV} (h : okFL ls) (hv : okF v) : okFL (ls.set a (some v)) := by
  intro w hw
  rcases List.mem_or_eq_of_mem_set hw with h1 | h1
  · exact h w h1
  · cases h1; exact hv
theorem okFS_cons {st : List AV} {v : AV} (hv : okF v) (h : okFS st) : okFS (v :: st) := by
  intro w hw
  rcases List.mem_cons.mp hw with rfl | h1
  · exact hv
  · exact h w h1
theorem okFS_tail {st : List AV} {v : AV} (h : okFS (v :: st)) : okFS st := fun w hw => h w (List.mem_cons_of_mem _ hw)
theorem okFS_head {st : List AV} {v : AV} (h : okFS (v :: st)) : okF v := h v List.mem_cons_self
theorem okF_f (x : Int) : okF (.inl (0, x)) := fun h => absurd rfl h
theorem okF_1 {x : Int} (h : inR x) (k : Nat) : okF (.inl (k, x)) := fun _ => h
theorem okFL_get {ls : AL} {a : Nat} {v : AV} (h : okFL ls) (hv : ls[a]? = some (some v)) : okF v := h v (List.mem_of_getElem? hv)
theorem rgB_spec {x : Int} (h : rgB x = true) : inR x := by
  simp only [rgB, Bool.and_eq_true, decide_eq_true_eq] at h
  exact h
theorem okF_nm (k : Bool) (x : Int) : okF (.inl (nmv k x)) := by
  cases k with
  | false => exact okF_f x
  | true =>
    cases hr : rgB x with
    | true =>
      have e : nmv true x = (2, x) := by show (match rgB x with | true => ((2, x) : NV) | false => (0, x)) = _; rw [hr]
      rw [e]
      exact okF_1 (rgB_spec hr) 2
    | false =>
      have e : nmv true x = (0, x) := by show (match rgB x with | true => ((2, x) : NV) | false => (0, x)) = _; rw [hr]
      rw [e]
      exact okF_f x
theorem av_nm (k : Bool) (x : Int) : av (.inl (nmv k x)) = .int (Int32.ofInt x) := by
  cases k with
  | false => rfl
  | true =>
    show Value.int (Int32.ofInt (match rgB x with | true => ((2, x) : NV) | false => (0, x)).2) = _
    cases rgB x <;> rfl
theorem li1_spec {x : NV} (h : li1 x = true) : vi x = x.2 := by
  obtain ⟨k, y⟩ := x
  simp only [li1, decide_eq_true_eq] at h
  subst h
  rfl
theorem li2_spec {x y : NV} (h : li2 x y = true) : vi x = x.2 ∧ vi y = y.2 := by
  obtain ⟨k, z⟩ := x
  obtain ⟨k', z'⟩ := y
  simp only [li2, Bool.and_eq_true, decide_eq_true_eq] at h
  obtain ⟨rfl, rfl⟩ := h
  exact ⟨rfl, rfl⟩
theorem brP_spec {k b : Bool} {c A B : Prop} (h : brP k b c A B) (hk : k = true → (b = true ↔ c)) : (c → A) ∧ (¬ c → B) := by
  cases k with
  | false => exact h
  | true =>
    have hk := hk rfl
    cases b with
    | true => exact ⟨fun _ => h, fun z => absurd (hk.mp rfl) z⟩
    | false => exact ⟨fun z => absurd (hk.mpr z) (by decide), fun _ => h⟩
theorem boP_spec {x : NV} {A : Prop} (h : boP x A) : (vi x = 0 ∨ vi x = 1) ∧ A := by
  unfold boP at h
  split at h
  · rename_i hl
    rw [li1_spec hl]
    split at h
    · rename_i hb
      simp only [Bool.or_eq_true, decide_eq_true_eq] at hb
      exact ⟨hb, h⟩
    · exact h.elim
  · exact h
theorem shC {N M : Nat} {G : Gm} {I : Mm} (hS : Shp N G) {r : RF} {a : Nat} (hv : okF (.inr r)) (h : tkd r.1 r.2.2 = a) : hsC (N, M, G, I) (adr r) a := ⟨(hS.1 r hv.1 hv.2).1, (hS.1 r hv.1 hv.2).2.1.trans h⟩
theorem shL {N : Nat} {G : Gm} (hS : Shp N G) {r : RF} (hv : okF (.inr r)) : (G (adr r)).2.1 = tln r.1 r.2.2 := (hS.1 r hv.1 hv.2).2.2.1
theorem shR {N : Nat} {G : Gm} (hS : Shp N G) {r : RF} {j q : Nat} (hv : okF (.inr r)) (h : trf r.1 r.2.2 j = some q) : (G (adr r)).2.2 j = some (adr (r.1, r.2.1, q)) := ((hS.1 r hv.1 hv.2).2.2.2 j q h).1
theorem trfOK : ∀ t, t < 7 → ∀ o, o < 48 → ∀ j, j < 55 → ∀ q, trf t o j = some q → ¬ tkd t q = 99 := by
  intro t ht o ho j hj q hq
  have key : ∀ t, t < 7 → ∀ o, o < 48 → ∀ j, j < 55 → (match trf t o j with | some q => decide (¬ tkd t q = 99) | none => true) = true := by decide +kernel
  have := key t ht o ho j hj
  rw [hq] at this
  exact of_decide_eq_true this
theorem ascLt : ∀ {l : List (Nat × Nat)} {j q : Nat}, asc l j = some q → (∀ e ∈ l, e.1 < 55) → j < 55
  | [], j, q, h, _ => by cases h
  | (k, z) :: l, j, q, h, hl => by
    unfold asc at h
    split at h
    · rename_i e
      rw [← e]
      exact hl (k, z) List.mem_cons_self
    · exact ascLt h (fun e he => hl e (List.mem_cons_of_mem _ he))
theorem getLt {l : List (List (Nat × Nat))} {o j q : Nat} (h : asc ((l[o]?).getD []) j = some q) (hl : ∀ k ∈ l, ∀ e ∈ k, e.1 < 55) (hn : l.length ≤ 48) : o < 48 ∧ j < 55 := by
  cases hc : l[o]? with
  | none => rw [hc] at h; cases h
  | some k =>
    rw [hc] at h
    have := (List.getElem?_eq_some_iff.mp hc).1
    exact ⟨by omega, ascLt h (hl k (List.mem_of_getElem? hc))⟩
theorem trfLt {t o j q : Nat} (h : trf t o j = some q) : t < 7 ∧ o < 48 ∧ j < 55 := by
  unfold trf at h
  split at h
  · exact ⟨by decide, getLt h (by decide) (by decide)⟩
  · exact ⟨by decide, getLt h (by decide) (by decide)⟩
  · exact ⟨by decide, getLt h (by decide) (by decide)⟩
  · exact ⟨by decide, getLt h (by decide) (by decide)⟩
  · exact ⟨by decide, getLt h (by decide) (by decide)⟩
  · exact ⟨by decide, getLt h (by decide) (by decide)⟩
  · exact ⟨by decide, getLt h (by decide) (by decide)⟩
  · cases h
theorem okF_rf {r : RF} {j q : Nat} (hv : okF (.inr r)) (h : trf r.1 r.2.2 j = some q) : okF (.inr (r.1, r.2.1, q)) := ⟨hv.1, trfOK _ (trfLt h).1 _ (trfLt h).2.1 _ (trfLt h).2.2 _ h⟩
theorem okF_t {j : Nat} (h : j < 8) : okF (.inr (1, 22 + 5 * j, 0)) := ⟨(show ∃ k, k < 8 ∧ 22 + 5 * j = 22 + 5 * k from ⟨j, h, rfl⟩), (by decide : ¬ tkd 1 0 = 99)⟩
theorem okF_x {j : Nat} (h : j < 6) : okF (.inr (2, 62 + 25 * j, 0)) := ⟨(show ∃ k, k < 6 ∧ 62 + 25 * j = 62 + 25 * k from ⟨j, h, rfl⟩), (by decide : ¬ tkd 2 0 = 99)⟩
theorem okl_of {N : Nat} {G : Gm} (hS : Shp N G) {ls : AL} (h : okFL ls) : okl N (avL ls) = true := by
  refine List.all_eq_true.mpr (fun o ho => ?_)
  obtain ⟨w, hw, rfl⟩ := List.mem_map.mp ho
  cases w with
  | none => rfl
  | some v =>
    have := h v hw
    cases v with
    | inl q => rfl
    | inr r => exact decide_eq_true (hS.1 r this.1 this.2).1
theorem okv_of {N : Nat} {G : Gm} (hS : Shp N G) {st : List AV} (h : okFS st) : (st.map av).all (okv N) = true ∧ (st.map av).all (oka N) = true := by
  constructor
  · refine List.all_eq_true.mpr (fun o ho => ?_)
    obtain ⟨v, hv, rfl⟩ := List.mem_map.mp ho
    have := h v hv
    cases v with
    | inl q => rfl
    | inr r => exact decide_eq_true (hS.1 r this.1 this.2).1
  · refine List.all_eq_true.mpr (fun o ho => ?_)
    obtain ⟨v, hv, rfl⟩ := List.mem_map.mp ho
    have := h v hv
    cases v with
    | inl q => rfl
    | inr r => exact decide_eq_true (hS.1 r this.1 this.2).1
theorem clamp_wr {x : Int} (h : 0 ≤ wr x) : (Int32.ofInt x).toNatClampNeg = (wr x).toNat := rfl
theorem not_ibd {x : Int} {n : Nat} (h : 0 ≤ wr x ∧ wr x < n) : ¬ ibd (Int32.ofInt x) n := by
  rintro (h1 | h1)
  · rw [Int32.lt_iff_toInt_lt] at h1
    have : (Int32.ofInt x).toInt = wr x := rfl
    rw [this, Int32.toInt_zero] at h1
    omega
  · rw [clamp_wr h.1] at h1
    omega
theorem bo_wr {x : Int} (h : wr x = 0 ∨ wr x = 1) : Int32.ofInt x = 0 ∨ Int32.ofInt x = 1 := by
  rcases h with h | h
  · left; exact Int32.toInt_inj.mp h
  · right; exact Int32.toInt_inj.mp h
theorem wtS (N M : Nat) (G : Gm) (I : Mm) (r k : Nat) (x : Int) : wrI (N, M, G, I) r k (Int32.ofInt x) = (N, M, G, wt I r k x) := rfl
theorem i_eq0 (x : Int) : Int32.ofInt x = 0 ↔ wr x = 0 := i_eq x 0
theorem i_lt0 (x : Int) : Int32.ofInt x < 0 ↔ wr x < 0 := i_lt x 0
theorem i_le0 (x : Int) : Int32.ofInt x ≤ 0 ↔ wr x ≤ 0 := i_le x 0
theorem i_gt0 (x : Int) : 0 < Int32.ofInt x ↔ 0 < wr x := i_lt 0 x
theorem i_ge0 (x : Int) : 0 ≤ Int32.ofInt x ↔ 0 ≤ wr x := i_le 0 x
theorem tln_le (t r : Nat) : tln t r ≤ 40000 := by
  unfold tln
  have key : ∀ (l : List Nat), (∀ x ∈ l, x ≤ 40000) → ∀ i : Nat, (l[i]?).getD 0 ≤ 40000 := by
    intro l hl i
    cases hc : l[i]? with
    | none => simp
    | some k => exact hl k (List.mem_of_getElem? hc)
  split
  all_goals first | exact key _ (by decide) _ | decide
theorem tln_in (t r : Nat) : inR (tln t r : Int) := by
  have := tln_le t r
  unfold inR
  omega
theorem nz_of {y : Int} (h : 0 < wr y) : ¬ Int32.ofInt y = 0 := by
  intro e
  have : wr y = wr 0 := (i_eq y 0).mp e
  have h0 : wr 0 = 0 := rfl
  omega
theorem div_in {x y : Int} (hx : inR x) (h0 : 0 ≤ x) (h9 : 0 < y) : inR (x / y) := by
  have h1 : 0 ≤ x / y := Int.ediv_nonneg h0 (by omega)
  have h2 : x / y ≤ x := Int.ediv_le_self y h0
  unfold inR at hx ⊢
  omega
theorem mod_in {x y : Int} (hx : inR x) (h0 : 0 ≤ x) (h9 : 0 < y) : inR (x % y) := by
  have h1 : 0 ≤ x % y := Int.emod_nonneg x (by omega)
  have h2 : x % y ≤ x := by
    have := Int.mul_ediv_add_emod x y
    have h3 : 0 ≤ y * (x / y) := Int.mul_nonneg (by omega) (Int.ediv_nonneg h0 (by omega))
    omega
  unfold inR at hx ⊢
  omega
theorem div_wr {x y : Int} (h0 : 0 ≤ wr x) (h9 : 0 < wr y) : Int32.ofInt x / Int32.ofInt y = Int32.ofInt (wr x / wr y) := by
  apply Int32.toInt_inj.mp
  have e1 : (Int32.ofInt (wr x / wr y)).toInt = wr x / wr y := wr_of (div_in (wr_in x) h0 h9)
  rw [e1, Int32.toInt_div_of_ne_right]
  · show (wr x).tdiv (wr y) = _
    rw [Int.tdiv_eq_ediv_of_nonneg h0]
  · intro e
    have : wr y = wr (-1) := (i_eq y (-1)).mp e
    have h1 : wr (-1) = -1 := rfl
    omega
theorem mod_wr {x y : Int} (h0 : 0 ≤ wr x) (h9 : 0 < wr y) : Int32.ofInt x - Int32.ofInt x / Int32.ofInt y * Int32.ofInt y = Int32.ofInt (wr x % wr y) := by
  rw [div_wr h0 h9]
  have e : wr x % wr y = wr x - wr x / wr y * wr y := by
    have := Int.mul_ediv_add_emod (wr x) (wr y)
    rw [Int.mul_comm] at this
    omega
  rw [e, Int32.ofInt_sub, Int32.ofInt_mul, of_wr, of_wr]
theorem sv_iconst {f : Nat} {mm : MT} {pc n a b : Nat} {v : Int32} {ls : AL} {st : List AV} {I : Mm} {P : Option Value → Mm → Prop} {kn : Nat → AL → List AV → Mm → Prop} {cz : Nat → List AV → Mm → (NV → Mm → Prop) → Prop} {cv : Nat → List AV → Mm → (Mm → Prop) → Prop} {cr : Nat → List AV → Mm → (RF → Mm → Prop) → Prop} {rt : AR → Mm → Prop} (hm : mT f = some mm) (hls : okFL ls) (hst : okFS st) (hkn : ∀ pc ls st I, okFL ls → okFS st → kn pc ls st I → GoI f pc (avL ls) (st.map av) I P) {z : Int} (hl : lkE (cd f) pc = some (pc, .iconst z, n, v, a, b)) (hz : okZ (pc, .iconst z, n, v, a, b) = true) (h : vst mm (pc, .iconst z, n, v, a, b) ls st I kn cz cv cr rt) : GoI f pc (avL ls) (st.map av) I P := by
  simp only [okZ, Bool.and_eq_true, decide_eq_true_eq] at hz
  have h : kn (pc + n) ls (.inl (2, z) :: st) I := h
  have K := hkn _ _ _ _ hls (okFS_cons (okF_1 ⟨hz.1.2, hz.2⟩ 2) hst) h
  refine GoI.of_stp hm hl ?_
  intro N M G hS
  obtain ⟨n0, r0, I0, h1, h2⟩ := K N M G hS
  refine ⟨n0, r0, I0, fun n9 hn => ?_, h2⟩
  show run n9 none f (pc + n) (avL ls) (.int v :: st.map av) (N, M, G, I) = _
  rw [← hz.1.1]
  exact h1 n9 hn
theorem sv_bipush {f : Nat} {mm : MT} {pc n a b : Nat} {v : Int32} {ls : AL} {st : List AV} {I : Mm} {P : Option Value → Mm → Prop} {kn : Nat → AL → List AV → Mm → Prop} {cz : Nat → List AV → Mm → (NV → Mm → Prop) → Prop} {cv : Nat → List AV → Mm → (Mm → Prop) → Prop} {cr : Nat → List AV → Mm → (RF → Mm → Prop) → Prop} {rt : AR → Mm → Prop} (hm : mT f = some mm) (hls : okFL ls) (hst : okFS st) (hkn : ∀ pc ls st I, okFL ls → okFS st → kn pc ls st I → GoI f pc (avL ls) (st.map av) I P) {z : Int} (hl : lkE (cd f) pc = some (pc, .bipush z, n, v, a, b)) (hz : okZ (pc, .bipush z, n, v, a, b) = true) (h : vst mm (pc, .bipush z, n, v, a, b) ls st I kn cz cv cr rt) : GoI f pc (avL ls) (st.map av) I P := by
  simp only [okZ, Bool.and_eq_true, decide_eq_true_eq] at hz
  have h : kn (pc + n) ls (.inl (2, z) :: st) I := h
  have K := hkn _ _ _ _ hls (okFS_cons (okF_1 ⟨hz.1.2, hz.2⟩ 2) hst) h
  refine GoI.of_stp hm hl ?_
  intro N M G hS
  obtain ⟨n0, r0, I0, h1, h2⟩ := K N M G hS
  refine ⟨n0, r0, I0, fun n9 hn => ?_, h2⟩
  show run n9 none f (pc + n) (avL ls) (.int v :: st.map av) (N, M, G, I) = _
  rw [← hz.1.1]
  exact h1 n9 hn
theorem sv_sipush {f : Nat} {mm : MT} {pc n a b : Nat} {v : Int32} {ls : AL} {st : List AV} {I : Mm} {P : Option Value → Mm → Prop} {kn : Nat → AL → List AV → Mm → Prop} {cz : Nat → List AV → Mm → (NV → Mm → Prop) → Prop} {cv : Nat → List AV → Mm → (Mm → Prop) → Prop} {cr : Nat → List AV → Mm → (RF → Mm → Prop) → Prop} {rt : AR → Mm → Prop} (hm : mT f = some mm) (hls : okFL ls) (hst : okFS st) (hkn : ∀ pc ls st I, okFL ls → okFS st → kn pc ls st I → GoI f pc (avL ls) (st.map av) I P) {z : Int} (hl : lkE (cd f) pc = some (pc, .sipush z, n, v, a, b)) (hz : okZ (pc, .sipush z, n, v, a, b) = true) (h : vst mm (pc, .sipush z, n, v, a, b) ls st I kn cz cv cr rt) : GoI f pc (avL ls) (st.map av) I P := by
  simp only [okZ, Bool.and_eq_true, decide_eq_true_eq] at hz
  have h : kn (pc + n) ls (.inl (2, z) :: st) I := h
  have K := hkn _ _ _ _ hls (okFS_cons (okF_1 ⟨hz.1.2, hz.2⟩ 2) hst) h
  refine GoI.of_stp hm hl ?_
  intro N M G hS
  obtain ⟨n0, r0, I0, h1, h2⟩ := K N M G hS
  refine ⟨n0, r0, I0, fun n9 hn => ?_, h2⟩
  show run n9 none f (pc + n) (avL ls) (.int v :: st.map av) (N, M, G, I) = _
  rw [← hz.1.1]
  exact h1 n9 hn
theorem sv_ldc {f : Nat} {mm : MT} {pc n a b : Nat} {v : Int32} {ls : AL} {st : List AV} {I : Mm} {P : Option Value → Mm → Prop} {kn : Nat → AL → List AV → Mm → Prop} {cz : Nat → List AV → Mm → (NV → Mm → Prop) → Prop} {cv : Nat → List AV → Mm → (Mm → Prop) → Prop} {cr : Nat → List AV → Mm → (RF → Mm → Prop) → Prop} {rt : AR → Mm → Prop} (hm : mT f = some mm) (hls : okFL ls) (hst : okFS st) (hkn : ∀ pc ls st I, okFL ls → okFS st → kn pc ls st I → GoI f pc (avL ls) (st.map av) I P) {z : Nat} (hl : lkE (cd f) pc = some (pc, .ldc z, n, v, a, b)) (h : vst mm (pc, .ldc z, n, v, a, b) ls st I kn cz cv cr rt) : GoI f pc (avL ls) (st.map av) I P := by
  have h : kn (pc + n) ls (.inl (1, v.toInt) :: st) I := h
  have K := hkn _ _ _ _ hls (okFS_cons (okF_1 (x := v.toInt) (rd_in (fun _ _ => v) 0 0) 1) hst) h
  refine GoI.of_stp hm hl ?_
  intro N M G hS
  obtain ⟨n0, r0, I0, h1, h2⟩ := K N M G hS
  refine ⟨n0, r0, I0, fun n9 hn => ?_, h2⟩
  show run n9 none f (pc + n) (avL ls) (.int v :: st.map av) (N, M, G, I) = _
  have e : av (.inl (1, v.toInt)) = .int v := by show Value.int (Int32.ofInt v.toInt) = _; rw [Int32.ofInt_toInt]
  rw [List.map_cons, e] at h1
  exact h1 n9 hn
theorem sv_iload {f : Nat} {mm : MT} {pc n a b : Nat} {v : Int32} {ls : AL} {st : List AV} {I : Mm} {P : Option Value → Mm → Prop} {kn : Nat → AL → List AV → Mm → Prop} {cz : Nat → List AV → Mm → (NV → Mm → Prop) → Prop} {cv : Nat → List AV → Mm → (Mm → Prop) → Prop} {cr : Nat → List AV → Mm → (RF → Mm → Prop) → Prop} {rt : AR → Mm → Prop} (hm : mT f = some mm) (hls : okFL ls) (hst : okFS st) (hkn : ∀ pc ls st I, okFL ls → okFS st → kn pc ls st I → GoI f pc (avL ls) (st.map av) I P) {z : Nat} (hl : lkE (cd f) pc = some (pc, .iload z, n, v, a, b)) (h : vst mm (pc, .iload z, n, v, a, b) ls st I kn cz cv cr rt) : GoI f pc (avL ls) (st.map av) I P := by
  simp only [vst] at h
  split at h
  · rename_i q hq
    have K := hkn _ _ _ _ hls (okFS_cons (okFL_get hls hq) hst) h
    refine GoI.of_stp hm hl ?_
    intro N M G hS
    obtain ⟨n0, r0, I0, h1, h2⟩ := K N M G hS
    refine ⟨n0, r0, I0, fun n9 hn => ?_, h2⟩
    simp only [stp, avL_get hq, av]
    exact h1 n9 hn
  · exact h.elim
theorem sv_iload_n {f : Nat} {mm : MT} {pc n a b : Nat} {v : Int32} {ls : AL} {st : List AV} {I : Mm} {P : Option Value → Mm → Prop} {kn : Nat → AL → List AV → Mm → Prop} {cz : Nat → List AV → Mm → (NV → Mm → Prop) → Prop} {cv : Nat → List AV → Mm → (Mm → Prop) → Prop} {cr : Nat → List AV → Mm → (RF → Mm → Prop) → Prop} {rt : AR → Mm → Prop} (hm : mT f = some mm) (hls : okFL ls) (hst : okFS st) (hkn : ∀ pc ls st I, okFL ls → okFS st → kn pc ls st I → GoI f pc (avL ls) (st.map av) I P) {z : Fin 4} (hl : lkE (cd f) pc = some (pc, .iload_n z, n, v, a, b)) (h : vst mm (pc, .iload_n z, n, v, a, b) ls st I kn cz cv cr rt) : GoI f pc (avL ls) (st.map av) I P := by
  simp only [vst] at h
  split at h
  · rename_i q hq
    have K := hkn _ _ _ _ hls (okFS_cons (okFL_get hls hq) hst) h
    refine GoI.of_stp hm hl ?_
    intro N M G hS
    obtain ⟨n0, r0, I0, h1, h2⟩ := K N M G hS
    refine ⟨n0, r0, I0, fun n9 hn => ?_, h2⟩
    simp only [stp, avL_get hq, av]
    exact h1 n9 hn
  · exact h.elim
theorem sv_aload {f : Nat} {mm : MT} {pc n a b : Nat} {v : Int32} {ls : AL} {st : List AV} {I : Mm} {P : Option Value → Mm → Prop} {kn : Nat → AL → List AV → Mm → Prop} {cz : Nat → List AV → Mm → (NV → Mm → Prop) → Prop} {cv : Nat → List AV → Mm → (Mm → Prop) → Prop} {cr : Nat → List AV → Mm → (RF → Mm → Prop) → Prop} {rt : AR → Mm → Prop} (hm : mT f = some mm) (hls : okFL ls) (hst : okFS st) (hkn : ∀ pc ls st I, okFL ls → okFS st → kn pc ls st I → GoI f pc (avL ls) (st.map av) I P) {z : Nat} (hl : lkE (cd f) pc = some (pc, .aload z, n, v, a, b)) (h : vst mm (pc, .aload z, n, v, a, b) ls st I kn cz cv cr rt) : GoI f pc (avL ls) (st.map av) I P := by
  simp only [vst] at h
  split at h
  · rename_i q hq
    have K := hkn _ _ _ _ hls (okFS_cons (okFL_get hls hq) hst) h
    refine GoI.of_stp hm hl ?_
    intro N M G hS
    obtain ⟨n0, r0, I0, h1, h2⟩ := K N M G hS
    refine ⟨n0, r0, I0, fun n9 hn => ?_, h2⟩
    simp only [stp, avL_get hq, av]
    exact h1 n9 hn
  · exact h.elim
theorem sv_aload_n {f : Nat} {mm : MT} {pc n a b : Nat} {v : Int32} {ls : AL} {st : List AV} {I : Mm} {P : Option Value → Mm → Prop} {kn : Nat → AL → List AV → Mm → Prop} {cz : Nat → List AV → Mm → (NV → Mm → Prop) → Prop} {cv : Nat → List AV → Mm → (Mm → Prop) → Prop} {cr : Nat → List AV → Mm → (RF → Mm → Prop) → Prop} {rt : AR → Mm → Prop} (hm : mT f = some mm) (hls : okFL ls) (hst : okFS st) (hkn : ∀ pc ls st I, okFL ls → okFS st → kn pc ls st I → GoI f pc (avL ls) (st.map av) I P) {z : Fin 4} (hl : lkE (cd f) pc = some (pc, .aload_n z, n, v, a, b)) (h : vst mm (pc, .aload_n z, n, v, a, b) ls st I kn cz cv cr rt) : GoI f pc (avL ls) (st.map av) I P := by
  simp only [vst] at h
  split at h
  · rename_i q hq
    have K := hkn _ _ _ _ hls (okFS_cons (okFL_get hls hq) hst) h
    refine GoI.of_stp hm hl ?_
    intro N M G hS
    obtain ⟨n0, r0, I0, h1, h2⟩ := K N M G hS
    refine ⟨n0, r0, I0, fun n9 hn => ?_, h2⟩
    simp only [stp, avL_get hq, av]
    exact h1 n9 hn
  · exact h.elim
theorem sv_istore {f : Nat} {mm : MT} {pc n a b : Nat} {v : Int32} {ls : AL} {st : List AV} {I : Mm} {P : Option Value → Mm → Prop} {kn : Nat → AL → List AV → Mm → Prop} {cz : Nat → List AV → Mm → (NV → Mm → Prop) → Prop} {cv : Nat → List AV → Mm → (Mm → Prop) → Prop} {cr : Nat → List AV → Mm → (RF → Mm → Prop) → Prop} {rt : AR → Mm → Prop} (hm : mT f = some mm) (hls : okFL ls) (hst : okFS st) (hkn : ∀ pc ls st I, okFL ls → okFS st → kn pc ls st I → GoI f pc (avL ls) (st.map av) I P) {z : Nat} (hl : lkE (cd f) pc = some (pc, .istore z, n, v, a, b)) (h : vst mm (pc, .istore z, n, v, a, b) ls st I kn cz cv cr rt) : GoI f pc (avL ls) (st.map av) I P := by
  simp only [vst] at h
  split at h
  · rename_i q st'
    have hv := okFS_head hst
    split at h
    · rename_i ha
      split at h
      · have K := hkn _ _ _ _ (okFL_set hls hv) (okFS_tail hst) h
        rw [avL_set] at K
        refine GoI.of_stp hm hl ?_
        intro N M G hS
        obtain ⟨n0, r0, I0, h1, h2⟩ := K N M G hS
        refine ⟨n0, r0, I0, fun n9 hn => ?_, h2⟩
        simp only [stp, List.map_cons, av]
        rw [if_pos (by rw [avL_len]; exact ha)]
        exact h1 n9 hn
      · have hin : inR (vi q) := by rw [vi_wr hv]; exact wr_in _
        have K := hkn _ _ _ _ (okFL_set hls (okF_1 hin 1)) (okFS_tail hst) (h _ rfl hin)
        rw [avL_set] at K
        have e : av (.inl (1, vi q)) = .int (Int32.ofInt q.2) := by show Value.int (Int32.ofInt (vi q)) = _; rw [vi_wr hv, of_wr]
        rw [e] at K
        refine GoI.of_stp hm hl ?_
        intro N M G hS
        obtain ⟨n0, r0, I0, h1, h2⟩ := K N M G hS
        refine ⟨n0, r0, I0, fun n9 hn => ?_, h2⟩
        simp only [stp, List.map_cons, av]
        rw [if_pos (by rw [avL_len]; exact ha)]
        exact h1 n9 hn
    · exact h.elim
  · exact h.elim
theorem sv_istore_n {f : Nat} {mm : MT} {pc n a b : Nat} {v : Int32} {ls : AL} {st : List AV} {I : Mm} {P : Option Value → Mm → Prop} {kn : Nat → AL → List AV → Mm → Prop} {cz : Nat → List AV → Mm → (NV → Mm → Prop) → Prop} {cv : Nat → List AV → Mm → (Mm → Prop) → Prop} {cr : Nat → List AV → Mm → (RF → Mm → Prop) → Prop} {rt : AR → Mm → Prop} (hm : mT f = some mm) (hls : okFL ls) (hst : okFS st) (hkn : ∀ pc ls st I, okFL ls → okFS st → kn pc ls st I → GoI f pc (avL ls) (st.map av) I P) {z : Fin 4} (hl : lkE (cd f) pc = some (pc, .istore_n z, n, v, a, b)) (h : vst mm (pc, .istore_n z, n, v, a, b) ls st I kn cz cv cr rt) : GoI f pc (avL ls) (st.map av) I P := by
  simp only [vst] at h
  split at h
  · rename_i q st'
    have hv := okFS_head hst
    split at h
    · rename_i ha
      split at h
      · have K := hkn _ _ _ _ (okFL_set hls hv) (okFS_tail hst) h
        rw [avL_set] at K
        refine GoI.of_stp hm hl ?_
        intro N M G hS
        obtain ⟨n0, r0, I0, h1, h2⟩ := K N M G hS
        refine ⟨n0, r0, I0, fun n9 hn => ?_, h2⟩
        simp only [stp, List.map_cons, av]
        rw [if_pos (by rw [avL_len]; exact ha)]
        exact h1 n9 hn
      · have hin : inR (vi q) := by rw [vi_wr hv]; exact wr_in _
        have K := hkn _ _ _ _ (okFL_set hls (okF_1 hin 1)) (okFS_tail hst) (h _ rfl hin)
        rw [avL_set] at K
        have e : av (.inl (1, vi q)) = .int (Int32.ofInt q.2) := by show Value.int (Int32.ofInt (vi q)) = _; rw [vi_wr hv, of_wr]
        rw [e] at K
        refine GoI.of_stp hm hl ?_
        intro N M G hS
        obtain ⟨n0, r0, I0, h1, h2⟩ := K N M G hS
        refine ⟨n0, r0, I0, fun n9 hn => ?_, h2⟩
        simp only [stp, List.map_cons, av]
        rw [if_pos (by rw [avL_len]; exact ha)]
        exact h1 n9 hn
    · exact h.elim
  · exact h.elim
theorem sv_astore {f : Nat} {mm : MT} {pc n a b : Nat} {v : Int32} {ls : AL} {st : List AV} {I : Mm} {P : Option Value → Mm → Prop} {kn : Nat → AL → List AV → Mm → Prop} {cz : Nat → List AV → Mm → (NV → Mm → Prop) → Prop} {cv : Nat → List AV → Mm → (Mm → Prop) → Prop} {cr : Nat → List AV → Mm → (RF → Mm → Prop) → Prop} {rt : AR → Mm → Prop} (hm : mT f = some mm) (hls : okFL ls) (hst : okFS st) (hkn : ∀ pc ls st I, okFL ls → okFS st → kn pc ls st I → GoI f pc (avL ls) (st.map av) I P) {z : Nat} (hl : lkE (cd f) pc = some (pc, .astore z, n, v, a, b)) (h : vst mm (pc, .astore z, n, v, a, b) ls st I kn cz cv cr rt) : GoI f pc (avL ls) (st.map av) I P := by
  simp only [vst] at h
  split at h
  · rename_i q st'
    split at h
    · rename_i ha
      have K := hkn _ _ _ _ (okFL_set hls (okFS_head hst)) (okFS_tail hst) h
      rw [avL_set] at K
      refine GoI.of_stp hm hl ?_
      intro N M G hS
      obtain ⟨n0, r0, I0, h1, h2⟩ := K N M G hS
      refine ⟨n0, r0, I0, fun n9 hn => ?_, h2⟩
      simp only [stp, List.map_cons, av]
      rw [if_pos (by rw [avL_len]; exact ha)]
      exact h1 n9 hn
    · exact h.elim
  · exact h.elim
theorem sv_astore_n {f : Nat} {mm : MT} {pc n a b : Nat} {v : Int32} {ls : AL} {st : List AV} {I : Mm} {P : Option Value → Mm → Prop} {kn : Nat → AL → List AV → Mm → Prop} {cz : Nat → List AV → Mm → (NV → Mm → Prop) → Prop} {cv : Nat → List AV → Mm → (Mm → Prop) → Prop} {cr : Nat → List AV → Mm → (RF → Mm → Prop) → Prop} {rt : AR → Mm → Prop} (hm : mT f = some mm) (hls : okFL ls) (hst : okFS st) (hkn : ∀ pc ls st I, okFL ls → okFS st → kn pc ls st I → GoI f pc (avL ls) (st.map av) I P) {z : Fin 4} (hl : lkE (cd f) pc = some (pc, .astore_n z, n, v, a, b)) (h : vst mm (pc, .astore_n z, n, v, a, b) ls st I kn cz cv cr rt) : GoI f pc (avL ls) (st.map av) I P := by
  simp only [vst] at h
  split at h
  · rename_i q st'
    split at h
    · rename_i ha
      have K := hkn _ _ _ _ (okFL_set hls (okFS_head hst)) (okFS_tail hst) h
      rw [avL_set] at K
      refine GoI.of_stp hm hl ?_
      intro N M G hS
      obtain ⟨n0, r0, I0, h1, h2⟩ := K N M G hS
      refine ⟨n0, r0, I0, fun n9 hn => ?_, h2⟩
      simp only [stp, List.map_cons, av]
      rw [if_pos (by rw [avL_len]; exact ha)]
      exact h1 n9 hn
    · exact h.elim
  · exact h.elim
theorem sv_iinc {f : Nat} {mm : MT} {pc n a b : Nat} {v : Int32} {ls : AL} {st : List AV} {I : Mm} {P : Option Value → Mm → Prop} {kn : Nat → AL → List AV → Mm → Prop} {cz : Nat → List AV → Mm → (NV → Mm → Prop) → Prop} {cv : Nat → List AV → Mm → (Mm → Prop) → Prop} {cr : Nat → List AV → Mm → (RF → Mm → Prop) → Prop} {rt : AR → Mm → Prop} (hm : mT f = some mm) (hls : okFL ls) (hst : okFS st) (hkn : ∀ pc ls st I, okFL ls → okFS st → kn pc ls st I → GoI f pc (avL ls) (st.map av) I P) {z : Nat} {y : Int} (hl : lkE (cd f) pc = some (pc, .iinc z y, n, v, a, b)) (hz : okZ (pc, .iinc z y, n, v, a, b) = true) (h : vst mm (pc, .iinc z y, n, v, a, b) ls st I kn cz cv cr rt) : GoI f pc (avL ls) (st.map av) I P := by
  simp only [okZ, decide_eq_true_eq] at hz
  simp only [vst] at h
  split at h
  · rename_i q hq
    split at h
    · have K := hkn _ _ _ _ (okFL_set hls (okF_nm _ _)) hst h
      rw [avL_set] at K
      refine GoI.of_stp hm hl ?_
      intro N M G hS
      obtain ⟨n0, r0, I0, h1, h2⟩ := K N M G hS
      refine ⟨n0, r0, I0, fun n9 hn => ?_, h2⟩
      simp only [stp, avL_get hq, av]
      rw [av_nm, Int32.ofInt_add, hz] at h1
      exact h1 n9 hn
    · have K := hkn _ _ _ _ (okFL_set hls (okF_1 (wr_in (q.2 + y)) 1)) hst (h _ rfl (wr_in _))
      rw [avL_set] at K
      have e : av (.inl (1, wr (q.2 + y))) = .int (Int32.ofInt (q.2 + y)) := by show Value.int (Int32.ofInt (wr (q.2 + y))) = _; rw [of_wr]
      rw [e] at K
      refine GoI.of_stp hm hl ?_
      intro N M G hS
      obtain ⟨n0, r0, I0, h1, h2⟩ := K N M G hS
      refine ⟨n0, r0, I0, fun n9 hn => ?_, h2⟩
      simp only [stp, avL_get hq, av]
      rw [Int32.ofInt_add, hz] at h1
      exact h1 n9 hn
  · exact h.elim
theorem sv_iadd {f : Nat} {mm : MT} {pc n a b : Nat} {v : Int32} {ls : AL} {st : List AV} {I : Mm} {P : Option Value → Mm → Prop} {kn : Nat → AL → List AV → Mm → Prop} {cz : Nat → List AV → Mm → (NV → Mm → Prop) → Prop} {cv : Nat → List AV → Mm → (Mm → Prop) → Prop} {cr : Nat → List AV → Mm → (RF → Mm → Prop) → Prop} {rt : AR → Mm → Prop} (hm : mT f = some mm) (hls : okFL ls) (hst : okFS st) (hkn : ∀ pc ls st I, okFL ls → okFS st → kn pc ls st I → GoI f pc (avL ls) (st.map av) I P) (hl : lkE (cd f) pc = some (pc, .iadd, n, v, a, b)) (h : vst mm (pc, .iadd, n, v, a, b) ls st I kn cz cv cr rt) : GoI f pc (avL ls) (st.map av) I P := by
  simp only [vst] at h
  split at h
  · rename_i y x st'
    have K := hkn _ _ _ _ hls (okFS_cons (okF_nm _ _) (okFS_tail (okFS_tail hst))) h
    refine GoI.of_stp hm hl ?_
    intro N M G hS
    obtain ⟨n0, r0, I0, h1, h2⟩ := K N M G hS
    refine ⟨n0, r0, I0, fun n9 hn => ?_, h2⟩
    simp only [stp, List.map_cons, av]
    rw [List.map_cons, av_nm, Int32.ofInt_add] at h1
    exact h1 n9 hn
  · exact h.elim
theorem sv_isub {f : Nat} {mm : MT} {pc n a b : Nat} {v : Int32} {ls : AL} {st : List AV} {I : Mm} {P : Option Value → Mm → Prop} {kn : Nat → AL → List AV → Mm → Prop} {cz : Nat → List AV → Mm → (NV → Mm → Prop) → Prop} {cv : Nat → List AV → Mm → (Mm → Prop) → Prop} {cr : Nat → List AV → Mm → (RF → Mm → Prop) → Prop} {rt : AR → Mm → Prop} (hm : mT f = some mm) (hls : okFL ls) (hst : okFS st) (hkn : ∀ pc ls st I, okFL ls → okFS st → kn pc ls st I → GoI f pc (avL ls) (st.map av) I P) (hl : lkE (cd f) pc = some (pc, .isub, n, v, a, b)) (h : vst mm (pc, .isub, n, v, a, b) ls st I kn cz cv cr rt) : GoI f pc (avL ls) (st.map av) I P := by
  simp only [vst] at h
  split at h
  · rename_i y x st'
    have K := hkn _ _ _ _ hls (okFS_cons (okF_nm _ _) (okFS_tail (okFS_tail hst))) h
    refine GoI.of_stp hm hl ?_
    intro N M G hS
    obtain ⟨n0, r0, I0, h1, h2⟩ := K N M G hS
    refine ⟨n0, r0, I0, fun n9 hn => ?_, h2⟩
    simp only [stp, List.map_cons, av]
    rw [List.map_cons, av_nm, Int32.ofInt_sub] at h1
    exact h1 n9 hn
  · exact h.elim
theorem sv_imul {f : Nat} {mm : MT} {pc n a b : Nat} {v : Int32} {ls : AL} {st : List AV} {I : Mm} {P : Option Value → Mm → Prop} {kn : Nat → AL → List AV → Mm → Prop} {cz : Nat → List AV → Mm → (NV → Mm → Prop) → Prop} {cv : Nat → List AV → Mm → (Mm → Prop) → Prop} {cr : Nat → List AV → Mm → (RF → Mm → Prop) → Prop} {rt : AR → Mm → Prop} (hm : mT f = some mm) (hls : okFL ls) (hst : okFS st) (hkn : ∀ pc ls st I, okFL ls → okFS st → kn pc ls st I → GoI f pc (avL ls) (st.map av) I P) (hl : lkE (cd f) pc = some (pc, .imul, n, v, a, b)) (h : vst mm (pc, .imul, n, v, a, b) ls st I kn cz cv cr rt) : GoI f pc (avL ls) (st.map av) I P := by
  simp only [vst] at h
  split at h
  · rename_i y x st'
    have K := hkn _ _ _ _ hls (okFS_cons (okF_nm _ _) (okFS_tail (okFS_tail hst))) h
    refine GoI.of_stp hm hl ?_
    intro N M G hS
    obtain ⟨n0, r0, I0, h1, h2⟩ := K N M G hS
    refine ⟨n0, r0, I0, fun n9 hn => ?_, h2⟩
    simp only [stp, List.map_cons, av]
    rw [List.map_cons, av_nm, Int32.ofInt_mul] at h1
    exact h1 n9 hn
  · exact h.elim
theorem sv_dup {f : Nat} {mm : MT} {pc n a b : Nat} {v : Int32} {ls : AL} {st : List AV} {I : Mm} {P : Option Value → Mm → Prop} {kn : Nat → AL → List AV → Mm → Prop} {cz : Nat → List AV → Mm → (NV → Mm → Prop) → Prop} {cv : Nat → List AV → Mm → (Mm → Prop) → Prop} {cr : Nat → List AV → Mm → (RF → Mm → Prop) → Prop} {rt : AR → Mm → Prop} (hm : mT f = some mm) (hls : okFL ls) (hst : okFS st) (hkn : ∀ pc ls st I, okFL ls → okFS st → kn pc ls st I → GoI f pc (avL ls) (st.map av) I P) (hl : lkE (cd f) pc = some (pc, .dup, n, v, a, b)) (h : vst mm (pc, .dup, n, v, a, b) ls st I kn cz cv cr rt) : GoI f pc (avL ls) (st.map av) I P := by
  simp only [vst] at h
  split at h
  · rename_i x st'
    have K := hkn _ _ _ _ hls (okFS_cons (okFS_head hst) hst) h
    rcases x with q | q
    · refine GoI.of_stp hm hl ?_
      intro N M G hS
      obtain ⟨n0, r0, I0, h1, h2⟩ := K N M G hS
      refine ⟨n0, r0, I0, fun n9 hn => ?_, h2⟩
      simp only [stp, List.map_cons, av]
      exact h1 n9 hn
    · refine GoI.of_stp hm hl ?_
      intro N M G hS
      obtain ⟨n0, r0, I0, h1, h2⟩ := K N M G hS
      refine ⟨n0, r0, I0, fun n9 hn => ?_, h2⟩
      simp only [stp, List.map_cons, av]
      exact h1 n9 hn
  · exact h.elim
theorem sv_dup2 {f : Nat} {mm : MT} {pc n a b : Nat} {v : Int32} {ls : AL} {st : List AV} {I : Mm} {P : Option Value → Mm → Prop} {kn : Nat → AL → List AV → Mm → Prop} {cz : Nat → List AV → Mm → (NV → Mm → Prop) → Prop} {cv : Nat → List AV → Mm → (Mm → Prop) → Prop} {cr : Nat → List AV → Mm → (RF → Mm → Prop) → Prop} {rt : AR → Mm → Prop} (hm : mT f = some mm) (hls : okFL ls) (hst : okFS st) (hkn : ∀ pc ls st I, okFL ls → okFS st → kn pc ls st I → GoI f pc (avL ls) (st.map av) I P) (hl : lkE (cd f) pc = some (pc, .dup2, n, v, a, b)) (h : vst mm (pc, .dup2, n, v, a, b) ls st I kn cz cv cr rt) : GoI f pc (avL ls) (st.map av) I P := by
  simp only [vst] at h
  split at h
  · rename_i x y st'
    have K := hkn _ _ _ _ hls (okFS_cons (okFS_head hst) (okFS_cons (okFS_head (okFS_tail hst)) hst)) h
    refine GoI.of_stp hm hl ?_
    intro N M G hS
    obtain ⟨n0, r0, I0, h1, h2⟩ := K N M G hS
    refine ⟨n0, r0, I0, fun n9 hn => ?_, h2⟩
    simp only [stp, List.map_cons, av]
    exact h1 n9 hn
  · exact h.elim
theorem sv_goto {f : Nat} {mm : MT} {pc n a b : Nat} {v : Int32} {ls : AL} {st : List AV} {I : Mm} {P : Option Value → Mm → Prop} {kn : Nat → AL → List AV → Mm → Prop} {cz : Nat → List AV → Mm → (NV → Mm → Prop) → Prop} {cv : Nat → List AV → Mm → (Mm → Prop) → Prop} {cr : Nat → List AV → Mm → (RF → Mm → Prop) → Prop} {rt : AR → Mm → Prop} (hm : mT f = some mm) (hls : okFL ls) (hst : okFS st) (hkn : ∀ pc ls st I, okFL ls → okFS st → kn pc ls st I → GoI f pc (avL ls) (st.map av) I P) {z : Int} (hl : lkE (cd f) pc = some (pc, .goto z, n, v, a, b)) (h : vst mm (pc, .goto z, n, v, a, b) ls st I kn cz cv cr rt) : GoI f pc (avL ls) (st.map av) I P := by
  have h : kn a ls st I := h
  have K := hkn _ _ _ _ hls hst h
  refine GoI.of_stp hm hl ?_
  intro N M G hS
  obtain ⟨n0, r0, I0, h1, h2⟩ := K N M G hS
  refine ⟨n0, r0, I0, fun n9 hn => ?_, h2⟩
  exact h1 n9 hn
theorem sv_getfield {f : Nat} {mm : MT} {pc n a b : Nat} {v : Int32} {ls : AL} {st : List AV} {I : Mm} {P : Option Value → Mm → Prop} {kn : Nat → AL → List AV → Mm → Prop} {cz : Nat → List AV → Mm → (NV → Mm → Prop) → Prop} {cv : Nat → List AV → Mm → (Mm → Prop) → Prop} {cr : Nat → List AV → Mm → (RF → Mm → Prop) → Prop} {rt : AR → Mm → Prop} (hm : mT f = some mm) (hls : okFL ls) (hst : okFS st) (hkn : ∀ pc ls st I, okFL ls → okFS st → kn pc ls st I → GoI f pc (avL ls) (st.map av) I P) {z : Nat} (hl : lkE (cd f) pc = some (pc, .getfield z, n, v, a, b)) (h : vst mm (pc, .getfield z, n, v, a, b) ls st I kn cz cv cr rt) : GoI f pc (avL ls) (st.map av) I P := by
  simp only [vst] at h
  split at h
  · rename_i rr st'
    have hv := okFS_head hst
    split at h
    · rename_i hA
      split at h
      · rename_i hft
        split at h
        · rename_i q hq
          have K := hkn _ _ _ _ hls (okFS_cons (okF_rf hv hq) (okFS_tail hst)) h
          refine GoI.of_stp hm hl ?_
          intro N M G hS
          obtain ⟨n0, r0, I0, h1, h2⟩ := K N M G hS
          refine ⟨n0, r0, I0, fun n9 hn => ?_, h2⟩
          simp only [stp, List.map_cons, av]
          rw [if_pos (shC hS hv hA), hft]
          simp only [shR hS hv hq]
          exact h1 n9 hn
        · exact h.elim
      · rename_i t hne hft
        have K := hkn _ _ _ _ hls (okFS_cons (okF_1 (rd_in I (adr rr) b) 1) (okFS_tail hst)) h
        refine GoI.of_stp hm hl ?_
        intro N M G hS
        obtain ⟨n0, r0, I0, h1, h2⟩ := K N M G hS
        refine ⟨n0, r0, I0, fun n9 hn => ?_, h2⟩
        simp only [stp, List.map_cons, av]
        rw [if_pos (shC hS hv hA)]
        simp only [List.map_cons, av, of_rd] at h1
        split
        · rename_i h9; rw [hft] at h9; cases h9; exact absurd rfl hne
        · exact h1 n9 hn
        · rename_i h9; rw [hft] at h9; cases h9
      · exact h.elim
    · exact h.elim
  · exact h.elim
theorem sv_putfield {f : Nat} {mm : MT} {pc n a b : Nat} {v : Int32} {ls : AL} {st : List AV} {I : Mm} {P : Option Value → Mm → Prop} {kn : Nat → AL → List AV → Mm → Prop} {cz : Nat → List AV → Mm → (NV → Mm → Prop) → Prop} {cv : Nat → List AV → Mm → (Mm → Prop) → Prop} {cr : Nat → List AV → Mm → (RF → Mm → Prop) → Prop} {rt : AR → Mm → Prop} (hm : mT f = some mm) (hls : okFL ls) (hst : okFS st) (hkn : ∀ pc ls st I, okFL ls → okFS st → kn pc ls st I → GoI f pc (avL ls) (st.map av) I P) {z : Nat} (hl : lkE (cd f) pc = some (pc, .putfield z, n, v, a, b)) (h : vst mm (pc, .putfield z, n, v, a, b) ls st I kn cz cv cr rt) : GoI f pc (avL ls) (st.map av) I P := by
  simp only [vst] at h
  split at h
  · rename_i x rr st'
    have hv := okFS_head (okFS_tail hst)
    split at h
    · rename_i hA
      split at h
      · rename_i hft
        have K := hkn _ _ _ _ hls (okFS_tail (okFS_tail hst)) (h _ rfl)
        refine GoI.of_stp hm hl ?_
        intro N M G hS
        obtain ⟨n0, r0, I0, h1, h2⟩ := K N M G hS
        refine ⟨n0, r0, I0, fun n9 hn => ?_, h2⟩
        simp only [stp, List.map_cons, av]
        rw [if_pos (shC hS hv hA), hft]
        exact h1 n9 hn
      · rename_i hft
        obtain ⟨hx, h⟩ := boP_spec h
        rw [vi_wr (okFS_head hst)] at hx
        have K := hkn _ _ _ _ hls (okFS_tail (okFS_tail hst)) (h _ rfl)
        refine GoI.of_stp hm hl ?_
        intro N M G hS
        obtain ⟨n0, r0, I0, h1, h2⟩ := K N M G hS
        refine ⟨n0, r0, I0, fun n9 hn => ?_, h2⟩
        simp only [stp, List.map_cons, av]
        rw [if_pos (shC hS hv hA), hft]
        rw [if_pos (bo_wr hx)]
        exact h1 n9 hn
      · exact h.elim
    · exact h.elim
  · exact h.elim
theorem sv_iaload {f : Nat} {mm : MT} {pc n a b : Nat} {v : Int32} {ls : AL} {st : List AV} {I : Mm} {P : Option Value → Mm → Prop} {kn : Nat → AL → List AV → Mm → Prop} {cz : Nat → List AV → Mm → (NV → Mm → Prop) → Prop} {cv : Nat → List AV → Mm → (Mm → Prop) → Prop} {cr : Nat → List AV → Mm → (RF → Mm → Prop) → Prop} {rt : AR → Mm → Prop} (hm : mT f = some mm) (hls : okFL ls) (hst : okFS st) (hkn : ∀ pc ls st I, okFL ls → okFS st → kn pc ls st I → GoI f pc (avL ls) (st.map av) I P) (hl : lkE (cd f) pc = some (pc, .iaload, n, v, a, b)) (h : vst mm (pc, .iaload, n, v, a, b) ls st I kn cz cv cr rt) : GoI f pc (avL ls) (st.map av) I P := by
  simp only [vst] at h
  split at h
  · rename_i i rr st'
    have hv := okFS_head (okFS_tail hst)
    split at h
    · rename_i hA
      obtain ⟨hb, h⟩ := h
      rw [vi_wr (okFS_head hst)] at hb h
      have K := hkn _ _ _ _ hls (okFS_cons (okF_1 (rd_in I (adr rr) _) 1) (okFS_tail (okFS_tail hst))) h
      refine GoI.of_stp hm hl ?_
      intro N M G hS
      obtain ⟨n0, r0, I0, h1, h2⟩ := K N M G hS
      refine ⟨n0, r0, I0, fun n9 hn => ?_, h2⟩
      simp only [stp, List.map_cons, av]
      rw [if_pos (shC hS hv hA), if_neg (by rw [shL hS hv]; exact not_ibd hb)]
      simp only [List.map_cons, av, of_rd] at h1
      exact h1 n9 hn
    · exact h.elim
  · exact h.elim
theorem sv_baload {f : Nat} {mm : MT} {pc n a b : Nat} {v : Int32} {ls : AL} {st : List AV} {I : Mm} {P : Option Value → Mm → Prop} {kn : Nat → AL → List AV → Mm → Prop} {cz : Nat → List AV → Mm → (NV → Mm → Prop) → Prop} {cv : Nat → List AV → Mm → (Mm → Prop) → Prop} {cr : Nat → List AV → Mm → (RF → Mm → Prop) → Prop} {rt : AR → Mm → Prop} (hm : mT f = some mm) (hls : okFL ls) (hst : okFS st) (hkn : ∀ pc ls st I, okFL ls → okFS st → kn pc ls st I → GoI f pc (avL ls) (st.map av) I P) (hl : lkE (cd f) pc = some (pc, .baload, n, v, a, b)) (h : vst mm (pc, .baload, n, v, a, b) ls st I kn cz cv cr rt) : GoI f pc (avL ls) (st.map av) I P := by
  simp only [vst] at h
  split at h
  · rename_i i rr st'
    have hv := okFS_head (okFS_tail hst)
    split at h
    · rename_i hA
      obtain ⟨hb, h⟩ := h
      rw [vi_wr (okFS_head hst)] at hb h
      have K := hkn _ _ _ _ hls (okFS_cons (okF_1 (rd_in I (adr rr) _) 1) (okFS_tail (okFS_tail hst))) h
      refine GoI.of_stp hm hl ?_
      intro N M G hS
      obtain ⟨n0, r0, I0, h1, h2⟩ := K N M G hS
      refine ⟨n0, r0, I0, fun n9 hn => ?_, h2⟩
      simp only [stp, List.map_cons, av]
      rw [if_pos (shC hS hv hA), if_neg (by rw [shL hS hv]; exact not_ibd hb)]
      simp only [List.map_cons, av, of_rd] at h1
      exact h1 n9 hn
    · exact h.elim
  · exact h.elim
theorem sv_iastore {f : Nat} {mm : MT} {pc n a b : Nat} {v : Int32} {ls : AL} {st : List AV} {I : Mm} {P : Option Value → Mm → Prop} {kn : Nat → AL → List AV → Mm → Prop} {cz : Nat → List AV → Mm → (NV → Mm → Prop) → Prop} {cv : Nat → List AV → Mm → (Mm → Prop) → Prop} {cr : Nat → List AV → Mm → (RF → Mm → Prop) → Prop} {rt : AR → Mm → Prop} (hm : mT f = some mm) (hls : okFL ls) (hst : okFS st) (hkn : ∀ pc ls st I, okFL ls → okFS st → kn pc ls st I → GoI f pc (avL ls) (st.map av) I P) (hl : lkE (cd f) pc = some (pc, .iastore, n, v, a, b)) (h : vst mm (pc, .iastore, n, v, a, b) ls st I kn cz cv cr rt) : GoI f pc (avL ls) (st.map av) I P := by
  simp only [vst] at h
  split at h
  · rename_i x i rr st'
    have hv := okFS_head (okFS_tail (okFS_tail hst))
    split at h
    · rename_i hA
      obtain ⟨hb, h⟩ := h
      rw [vi_wr (okFS_head (okFS_tail hst))] at hb h
      have K := hkn _ _ _ _ hls (okFS_tail (okFS_tail (okFS_tail hst))) (h _ rfl)
      refine GoI.of_stp hm hl ?_
      intro N M G hS
      obtain ⟨n0, r0, I0, h1, h2⟩ := K N M G hS
      refine ⟨n0, r0, I0, fun n9 hn => ?_, h2⟩
      simp only [stp, List.map_cons, av]
      rw [if_pos (shC hS hv hA), if_neg (by rw [shL hS hv]; exact not_ibd hb)]
      exact h1 n9 hn
    · exact h.elim
  · exact h.elim
theorem sv_bastore {f : Nat} {mm : MT} {pc n a b : Nat} {v : Int32} {ls : AL} {st : List AV} {I : Mm} {P : Option Value → Mm → Prop} {kn : Nat → AL → List AV → Mm → Prop} {cz : Nat → List AV → Mm → (NV → Mm → Prop) → Prop} {cv : Nat → List AV → Mm → (Mm → Prop) → Prop} {cr : Nat → List AV → Mm → (RF → Mm → Prop) → Prop} {rt : AR → Mm → Prop} (hm : mT f = some mm) (hls : okFL ls) (hst : okFS st) (hkn : ∀ pc ls st I, okFL ls → okFS st → kn pc ls st I → GoI f pc (avL ls) (st.map av) I P) (hl : lkE (cd f) pc = some (pc, .bastore, n, v, a, b)) (h : vst mm (pc, .bastore, n, v, a, b) ls st I kn cz cv cr rt) : GoI f pc (avL ls) (st.map av) I P := by
  simp only [vst] at h
  split at h
  · rename_i x i rr st'
    have hv := okFS_head (okFS_tail (okFS_tail hst))
    split at h
    · rename_i hA
      obtain ⟨hb, h⟩ := h
      obtain ⟨hx, h⟩ := boP_spec h
      rw [vi_wr (okFS_head (okFS_tail hst))] at hb h
      rw [vi_wr (okFS_head hst)] at hx
      have K := hkn _ _ _ _ hls (okFS_tail (okFS_tail (okFS_tail hst))) (h _ rfl)
      refine GoI.of_stp hm hl ?_
      intro N M G hS
      obtain ⟨n0, r0, I0, h1, h2⟩ := K N M G hS
      refine ⟨n0, r0, I0, fun n9 hn => ?_, h2⟩
      simp only [stp, List.map_cons, av]
      rw [if_pos ⟨shC hS hv hA, bo_wr hx⟩, if_neg (by rw [shL hS hv]; exact not_ibd hb)]
      exact h1 n9 hn
    · exact h.elim
  · exact h.elim
theorem sv_aaload {f : Nat} {mm : MT} {pc n a b : Nat} {v : Int32} {ls : AL} {st : List AV} {I : Mm} {P : Option Value → Mm → Prop} {kn : Nat → AL → List AV → Mm → Prop} {cz : Nat → List AV → Mm → (NV → Mm → Prop) → Prop} {cv : Nat → List AV → Mm → (Mm → Prop) → Prop} {cr : Nat → List AV → Mm → (RF → Mm → Prop) → Prop} {rt : AR → Mm → Prop} (hm : mT f = some mm) (hls : okFL ls) (hst : okFS st) (hkn : ∀ pc ls st I, okFL ls → okFS st → kn pc ls st I → GoI f pc (avL ls) (st.map av) I P) (hl : lkE (cd f) pc = some (pc, .aaload, n, v, a, b)) (h : vst mm (pc, .aaload, n, v, a, b) ls st I kn cz cv cr rt) : GoI f pc (avL ls) (st.map av) I P := by
  simp only [vst] at h
  split at h
  · rename_i i rr st'
    have hv := okFS_head (okFS_tail hst)
    obtain ⟨t, bs, off⟩ := rr
    split at h
    · rename_i hA
      obtain ⟨rfl, rfl⟩ : t = 0 ∧ off = 13 := hA
      obtain ⟨hb, h⟩ := h
      rw [vi_wr (okFS_head hst)] at hb h
      have K := hkn _ _ _ _ hls (okFS_cons (okF_t (by omega)) (okFS_tail (okFS_tail hst))) h
      refine GoI.of_stp hm hl ?_
      intro N M G hS
      obtain ⟨n0, r0, I0, h1, h2⟩ := K N M G hS
      refine ⟨n0, r0, I0, fun n9 hn => ?_, h2⟩
      simp only [stp, List.map_cons, av]
      rw [if_pos (Or.inl (shC (a := 12) hS hv rfl)), if_neg (by rw [shL hS hv]; exact not_ibd hb)]
      have e : (G (adr (0, bs, 13))).2.2 (wr i.2).toNat = some (22 + 5 * (wr i.2).toNat) := hS.2.1 _ (by omega)
      rw [clamp_wr hb.1, e]
      exact h1 n9 hn
    · split at h
      · rename_i hA
        obtain ⟨rfl, rfl⟩ : t = 0 ∧ off = 14 := hA
        obtain ⟨hb, h⟩ := h
        rw [vi_wr (okFS_head hst)] at hb h
        have K := hkn _ _ _ _ hls (okFS_cons (okF_x (by omega)) (okFS_tail (okFS_tail hst))) h
        refine GoI.of_stp hm hl ?_
        intro N M G hS
        obtain ⟨n0, r0, I0, h1, h2⟩ := K N M G hS
        refine ⟨n0, r0, I0, fun n9 hn => ?_, h2⟩
        simp only [stp, List.map_cons, av]
        rw [if_pos (Or.inr (shC (a := 13) hS hv rfl)), if_neg (by rw [shL hS hv]; exact not_ibd hb)]
        have e : (G (adr (0, bs, 14))).2.2 (wr i.2).toNat = some (62 + 25 * (wr i.2).toNat) := hS.2.2 _ (by omega)
        rw [clamp_wr hb.1, e]
        exact h1 n9 hn
      · exact h.elim
  · exact h.elim
theorem sv_alen {f : Nat} {mm : MT} {pc n a b : Nat} {v : Int32} {ls : AL} {st : List AV} {I : Mm} {P : Option Value → Mm → Prop} {kn : Nat → AL → List AV → Mm → Prop} {cz : Nat → List AV → Mm → (NV → Mm → Prop) → Prop} {cv : Nat → List AV → Mm → (Mm → Prop) → Prop} {cr : Nat → List AV → Mm → (RF → Mm → Prop) → Prop} {rt : AR → Mm → Prop} (hm : mT f = some mm) (hls : okFL ls) (hst : okFS st) (hkn : ∀ pc ls st I, okFL ls → okFS st → kn pc ls st I → GoI f pc (avL ls) (st.map av) I P) (hl : lkE (cd f) pc = some (pc, .arraylength, n, v, a, b)) (h : vst mm (pc, .arraylength, n, v, a, b) ls st I kn cz cv cr rt) : GoI f pc (avL ls) (st.map av) I P := by
  simp only [vst] at h
  split at h
  · rename_i rr st'
    have hv := okFS_head hst
    split at h
    · rename_i hA
      have K := hkn _ _ _ _ hls (okFS_cons (okF_1 (tln_in rr.1 rr.2.2) 2) (okFS_tail hst)) h
      refine GoI.of_stp hm hl ?_
      intro N M G hS
      obtain ⟨n0, r0, I0, h1, h2⟩ := K N M G hS
      refine ⟨n0, r0, I0, fun n9 hn => ?_, h2⟩
      simp only [stp, List.map_cons, av]
      rw [if_pos (shC hS hv hA), shL hS hv]
      exact h1 n9 hn
    · exact h.elim
  · exact h.elim
theorem sv_ifCond {f : Nat} {mm : MT} {pc n a b : Nat} {v : Int32} {ls : AL} {st : List AV} {I : Mm} {P : Option Value → Mm → Prop} {kn : Nat → AL → List AV → Mm → Prop} {cz : Nat → List AV → Mm → (NV → Mm → Prop) → Prop} {cv : Nat → List AV → Mm → (Mm → Prop) → Prop} {cr : Nat → List AV → Mm → (RF → Mm → Prop) → Prop} {rt : AR → Mm → Prop} (hm : mT f = some mm) (hls : okFL ls) (hst : okFS st) (hkn : ∀ pc ls st I, okFL ls → okFS st → kn pc ls st I → GoI f pc (avL ls) (st.map av) I P) {cc : ClassFile.Cond} {z : Int} (hl : lkE (cd f) pc = some (pc, .ifCond cc z, n, v, a, b)) (h : vst mm (pc, .ifCond cc z, n, v, a, b) ls st I kn cz cv cr rt) : GoI f pc (avL ls) (st.map av) I P := by
  simp only [vst] at h
  split at h
  · rename_i x st'
    have e1 := vi_wr (okFS_head hst)
    have e2 := fun z => li1_spec (x := x) z
    cases cc
    · simp only at h
      have h := brP_spec h (fun z => by rw [e2 z, decide_eq_true_eq])
      rw [e1] at h
      by_cases hc : wr x.2 = 0
      · have K := hkn _ _ _ _ hls (okFS_tail hst) (h.1 hc)
        refine GoI.of_stp hm hl ?_
        intro N M G hS
        obtain ⟨n0, r0, I0, h1, h2⟩ := K N M G hS
        refine ⟨n0, r0, I0, fun n9 hn => ?_, h2⟩
        simp only [stp, List.map_cons, av]
        rw [if_pos ((i_eq0 x.2).mpr hc)]
        exact h1 n9 hn
      · have K := hkn _ _ _ _ hls (okFS_tail hst) (h.2 hc)
        refine GoI.of_stp hm hl ?_
        intro N M G hS
        obtain ⟨n0, r0, I0, h1, h2⟩ := K N M G hS
        refine ⟨n0, r0, I0, fun n9 hn => ?_, h2⟩
        simp only [stp, List.map_cons, av]
        rw [if_neg (fun z => hc ((i_eq0 x.2).mp z))]
        exact h1 n9 hn
    · simp only at h
      have h := brP_spec h (fun z => by rw [e2 z, decide_eq_true_eq])
      rw [e1] at h
      by_cases hc : wr x.2 = 0
      · have K := hkn _ _ _ _ hls (okFS_tail hst) (h.1 hc)
        refine GoI.of_stp hm hl ?_
        intro N M G hS
        obtain ⟨n0, r0, I0, h1, h2⟩ := K N M G hS
        refine ⟨n0, r0, I0, fun n9 hn => ?_, h2⟩
        simp only [stp, List.map_cons, av]
        rw [if_pos ((i_eq0 x.2).mpr hc)]
        exact h1 n9 hn
      · have K := hkn _ _ _ _ hls (okFS_tail hst) (h.2 hc)
        refine GoI.of_stp hm hl ?_
        intro N M G hS
        obtain ⟨n0, r0, I0, h1, h2⟩ := K N M G hS
        refine ⟨n0, r0, I0, fun n9 hn => ?_, h2⟩
        simp only [stp, List.map_cons, av]
        rw [if_neg (fun z => hc ((i_eq0 x.2).mp z))]
        exact h1 n9 hn
    · simp only at h
      have h := brP_spec h (fun z => by rw [e2 z, decide_eq_true_eq])
      rw [e1] at h
      by_cases hc : wr x.2 < 0
      · have K := hkn _ _ _ _ hls (okFS_tail hst) (h.1 hc)
        refine GoI.of_stp hm hl ?_
        intro N M G hS
        obtain ⟨n0, r0, I0, h1, h2⟩ := K N M G hS
        refine ⟨n0, r0, I0, fun n9 hn => ?_, h2⟩
        simp only [stp, List.map_cons, av]
        rw [if_pos ((i_lt0 x.2).mpr hc)]
        exact h1 n9 hn
      · have K := hkn _ _ _ _ hls (okFS_tail hst) (h.2 hc)
        refine GoI.of_stp hm hl ?_
        intro N M G hS
        obtain ⟨n0, r0, I0, h1, h2⟩ := K N M G hS
        refine ⟨n0, r0, I0, fun n9 hn => ?_, h2⟩
        simp only [stp, List.map_cons, av]
        rw [if_neg (fun z => hc ((i_lt0 x.2).mp z))]
        exact h1 n9 hn
    · simp only at h
      have h := brP_spec h (fun z => by rw [e2 z, decide_eq_true_eq])
      rw [e1] at h
      by_cases hc : 0 ≤ wr x.2
      · have K := hkn _ _ _ _ hls (okFS_tail hst) (h.1 hc)
        refine GoI.of_stp hm hl ?_
        intro N M G hS
        obtain ⟨n0, r0, I0, h1, h2⟩ := K N M G hS
        refine ⟨n0, r0, I0, fun n9 hn => ?_, h2⟩
        simp only [stp, List.map_cons, av]
        rw [if_pos ((i_ge0 x.2).mpr hc)]
        exact h1 n9 hn
      · have K := hkn _ _ _ _ hls (okFS_tail hst) (h.2 hc)
        refine GoI.of_stp hm hl ?_
        intro N M G hS
        obtain ⟨n0, r0, I0, h1, h2⟩ := K N M G hS
        refine ⟨n0, r0, I0, fun n9 hn => ?_, h2⟩
        simp only [stp, List.map_cons, av]
        rw [if_neg (fun z => hc ((i_ge0 x.2).mp z))]
        exact h1 n9 hn
    · simp only at h
      have h := brP_spec h (fun z => by rw [e2 z, decide_eq_true_eq])
      rw [e1] at h
      by_cases hc : 0 < wr x.2
      · have K := hkn _ _ _ _ hls (okFS_tail hst) (h.1 hc)
        refine GoI.of_stp hm hl ?_
        intro N M G hS
        obtain ⟨n0, r0, I0, h1, h2⟩ := K N M G hS
        refine ⟨n0, r0, I0, fun n9 hn => ?_, h2⟩
        simp only [stp, List.map_cons, av]
        rw [if_pos ((i_gt0 x.2).mpr hc)]
        exact h1 n9 hn
      · have K := hkn _ _ _ _ hls (okFS_tail hst) (h.2 hc)
        refine GoI.of_stp hm hl ?_
        intro N M G hS
        obtain ⟨n0, r0, I0, h1, h2⟩ := K N M G hS
        refine ⟨n0, r0, I0, fun n9 hn => ?_, h2⟩
        simp only [stp, List.map_cons, av]
        rw [if_neg (fun z => hc ((i_gt0 x.2).mp z))]
        exact h1 n9 hn
    · simp only at h
      have h := brP_spec h (fun z => by rw [e2 z, decide_eq_true_eq])
      rw [e1] at h
      by_cases hc : wr x.2 ≤ 0
      · have K := hkn _ _ _ _ hls (okFS_tail hst) (h.1 hc)
        refine GoI.of_stp hm hl ?_
        intro N M G hS
        obtain ⟨n0, r0, I0, h1, h2⟩ := K N M G hS
        refine ⟨n0, r0, I0, fun n9 hn => ?_, h2⟩
        simp only [stp, List.map_cons, av]
        rw [if_pos ((i_le0 x.2).mpr hc)]
        exact h1 n9 hn
      · have K := hkn _ _ _ _ hls (okFS_tail hst) (h.2 hc)
        refine GoI.of_stp hm hl ?_
        intro N M G hS
        obtain ⟨n0, r0, I0, h1, h2⟩ := K N M G hS
        refine ⟨n0, r0, I0, fun n9 hn => ?_, h2⟩
        simp only [stp, List.map_cons, av]
        rw [if_neg (fun z => hc ((i_le0 x.2).mp z))]
        exact h1 n9 hn
  · exact h.elim
theorem sv_icmp {f : Nat} {mm : MT} {pc n a b : Nat} {v : Int32} {ls : AL} {st : List AV} {I : Mm} {P : Option Value → Mm → Prop} {kn : Nat → AL → List AV → Mm → Prop} {cz : Nat → List AV → Mm → (NV → Mm → Prop) → Prop} {cv : Nat → List AV → Mm → (Mm → Prop) → Prop} {cr : Nat → List AV → Mm → (RF → Mm → Prop) → Prop} {rt : AR → Mm → Prop} (hm : mT f = some mm) (hls : okFL ls) (hst : okFS st) (hkn : ∀ pc ls st I, okFL ls → okFS st → kn pc ls st I → GoI f pc (avL ls) (st.map av) I P) {cc : ClassFile.Cond} {z : Int} (hl : lkE (cd f) pc = some (pc, .if_icmp cc z, n, v, a, b)) (h : vst mm (pc, .if_icmp cc z, n, v, a, b) ls st I kn cz cv cr rt) : GoI f pc (avL ls) (st.map av) I P := by
  simp only [vst] at h
  split at h
  · rename_i y x st'
    have e1 := vi_wr (okFS_head hst)
    have e3 := vi_wr (okFS_head (okFS_tail hst))
    have e2 := fun z => li2_spec (x := x) (y := y) z
    cases cc
    · simp only at h
      have h := brP_spec h (fun z => by rw [(e2 z).1, (e2 z).2, decide_eq_true_eq])
      rw [e1, e3] at h
      by_cases hc : wr x.2 = wr y.2
      · have K := hkn _ _ _ _ hls (okFS_tail (okFS_tail hst)) (h.1 hc)
        refine GoI.of_stp hm hl ?_
        intro N M G hS
        obtain ⟨n0, r0, I0, h1, h2⟩ := K N M G hS
        refine ⟨n0, r0, I0, fun n9 hn => ?_, h2⟩
        simp only [stp, List.map_cons, av]
        rw [if_pos ((i_eq x.2 y.2).mpr hc)]
        exact h1 n9 hn
      · have K := hkn _ _ _ _ hls (okFS_tail (okFS_tail hst)) (h.2 hc)
        refine GoI.of_stp hm hl ?_
        intro N M G hS
        obtain ⟨n0, r0, I0, h1, h2⟩ := K N M G hS
        refine ⟨n0, r0, I0, fun n9 hn => ?_, h2⟩
        simp only [stp, List.map_cons, av]
        rw [if_neg (fun z => hc ((i_eq x.2 y.2).mp z))]
        exact h1 n9 hn
    · simp only at h
      have h := brP_spec h (fun z => by rw [(e2 z).1, (e2 z).2, decide_eq_true_eq])
      rw [e1, e3] at h
      by_cases hc : wr x.2 = wr y.2
      · have K := hkn _ _ _ _ hls (okFS_tail (okFS_tail hst)) (h.1 hc)
        refine GoI.of_stp hm hl ?_
        intro N M G hS
        obtain ⟨n0, r0, I0, h1, h2⟩ := K N M G hS
        refine ⟨n0, r0, I0, fun n9 hn => ?_, h2⟩
        simp only [stp, List.map_cons, av]
        rw [if_pos ((i_eq x.2 y.2).mpr hc)]
        exact h1 n9 hn
      · have K := hkn _ _ _ _ hls (okFS_tail (okFS_tail hst)) (h.2 hc)
        refine GoI.of_stp hm hl ?_
        intro N M G hS
        obtain ⟨n0, r0, I0, h1, h2⟩ := K N M G hS
        refine ⟨n0, r0, I0, fun n9 hn => ?_, h2⟩
        simp only [stp, List.map_cons, av]
        rw [if_neg (fun z => hc ((i_eq x.2 y.2).mp z))]
        exact h1 n9 hn
    · simp only at h
      have h := brP_spec h (fun z => by rw [(e2 z).1, (e2 z).2, decide_eq_true_eq])
      rw [e1, e3] at h
      by_cases hc : wr x.2 < wr y.2
      · have K := hkn _ _ _ _ hls (okFS_tail (okFS_tail hst)) (h.1 hc)
        refine GoI.of_stp hm hl ?_
        intro N M G hS
        obtain ⟨n0, r0, I0, h1, h2⟩ := K N M G hS
        refine ⟨n0, r0, I0, fun n9 hn => ?_, h2⟩
        simp only [stp, List.map_cons, av]
        rw [if_pos ((i_lt x.2 y.2).mpr hc)]
        exact h1 n9 hn
      · have K := hkn _ _ _ _ hls (okFS_tail (okFS_tail hst)) (h.2 hc)
        refine GoI.of_stp hm hl ?_
        intro N M G hS
        obtain ⟨n0, r0, I0, h1, h2⟩ := K N M G hS
        refine ⟨n0, r0, I0, fun n9 hn => ?_, h2⟩
        simp only [stp, List.map_cons, av]
        rw [if_neg (fun z => hc ((i_lt x.2 y.2).mp z))]
        exact h1 n9 hn
    · simp only at h
      have h := brP_spec h (fun z => by rw [(e2 z).1, (e2 z).2, decide_eq_true_eq])
      rw [e1, e3] at h
      by_cases hc : wr y.2 ≤ wr x.2
      · have K := hkn _ _ _ _ hls (okFS_tail (okFS_tail hst)) (h.1 hc)
        refine GoI.of_stp hm hl ?_
        intro N M G hS
        obtain ⟨n0, r0, I0, h1, h2⟩ := K N M G hS
        refine ⟨n0, r0, I0, fun n9 hn => ?_, h2⟩
        simp only [stp, List.map_cons, av]
        rw [if_pos ((i_le y.2 x.2).mpr hc)]
        exact h1 n9 hn
      · have K := hkn _ _ _ _ hls (okFS_tail (okFS_tail hst)) (h.2 hc)
        refine GoI.of_stp hm hl ?_
        intro N M G hS
        obtain ⟨n0, r0, I0, h1, h2⟩ := K N M G hS
        refine ⟨n0, r0, I0, fun n9 hn => ?_, h2⟩
        simp only [stp, List.map_cons, av]
        rw [if_neg (fun z => hc ((i_le y.2 x.2).mp z))]
        exact h1 n9 hn
    · simp only at h
      have h := brP_spec h (fun z => by rw [(e2 z).1, (e2 z).2, decide_eq_true_eq])
      rw [e1, e3] at h
      by_cases hc : wr y.2 < wr x.2
      · have K := hkn _ _ _ _ hls (okFS_tail (okFS_tail hst)) (h.1 hc)
        refine GoI.of_stp hm hl ?_
        intro N M G hS
        obtain ⟨n0, r0, I0, h1, h2⟩ := K N M G hS
        refine ⟨n0, r0, I0, fun n9 hn => ?_, h2⟩
        simp only [stp, List.map_cons, av]
        rw [if_pos ((i_lt y.2 x.2).mpr hc)]
        exact h1 n9 hn
      · have K := hkn _ _ _ _ hls (okFS_tail (okFS_tail hst)) (h.2 hc)
        refine GoI.of_stp hm hl ?_
        intro N M G hS
        obtain ⟨n0, r0, I0, h1, h2⟩ := K N M G hS
        refine ⟨n0, r0, I0, fun n9 hn => ?_, h2⟩
        simp only [stp, List.map_cons, av]
        rw [if_neg (fun z => hc ((i_lt y.2 x.2).mp z))]
        exact h1 n9 hn
    · simp only at h
      have h := brP_spec h (fun z => by rw [(e2 z).1, (e2 z).2, decide_eq_true_eq])
      rw [e1, e3] at h
      by_cases hc : wr x.2 ≤ wr y.2
      · have K := hkn _ _ _ _ hls (okFS_tail (okFS_tail hst)) (h.1 hc)
        refine GoI.of_stp hm hl ?_
        intro N M G hS
        obtain ⟨n0, r0, I0, h1, h2⟩ := K N M G hS
        refine ⟨n0, r0, I0, fun n9 hn => ?_, h2⟩
        simp only [stp, List.map_cons, av]
        rw [if_pos ((i_le x.2 y.2).mpr hc)]
        exact h1 n9 hn
      · have K := hkn _ _ _ _ hls (okFS_tail (okFS_tail hst)) (h.2 hc)
        refine GoI.of_stp hm hl ?_
        intro N M G hS
        obtain ⟨n0, r0, I0, h1, h2⟩ := K N M G hS
        refine ⟨n0, r0, I0, fun n9 hn => ?_, h2⟩
        simp only [stp, List.map_cons, av]
        rw [if_neg (fun z => hc ((i_le x.2 y.2).mp z))]
        exact h1 n9 hn
  · exact h.elim
theorem sv_idiv {f : Nat} {mm : MT} {pc n a b : Nat} {v : Int32} {ls : AL} {st : List AV} {I : Mm} {P : Option Value → Mm → Prop} {kn : Nat → AL → List AV → Mm → Prop} {cz : Nat → List AV → Mm → (NV → Mm → Prop) → Prop} {cv : Nat → List AV → Mm → (Mm → Prop) → Prop} {cr : Nat → List AV → Mm → (RF → Mm → Prop) → Prop} {rt : AR → Mm → Prop} (hm : mT f = some mm) (hls : okFL ls) (hst : okFS st) (hkn : ∀ pc ls st I, okFL ls → okFS st → kn pc ls st I → GoI f pc (avL ls) (st.map av) I P) (hl : lkE (cd f) pc = some (pc, .idiv, n, v, a, b)) (h : vst mm (pc, .idiv, n, v, a, b) ls st I kn cz cv cr rt) : GoI f pc (avL ls) (st.map av) I P := by
  simp only [vst] at h
  split at h
  · rename_i y x st'
    rw [vi_wr (okFS_head hst), vi_wr (okFS_head (okFS_tail hst))] at h
    obtain ⟨⟨h0, h9⟩, h⟩ := h
    have K := hkn _ _ _ _ hls (okFS_cons (okF_1 (div_in (wr_in _) h0 h9) 1) (okFS_tail (okFS_tail hst))) h
    refine GoI.of_stp hm hl ?_
    intro N M G hS
    obtain ⟨n0, r0, I0, h1, h2⟩ := K N M G hS
    refine ⟨n0, r0, I0, fun n9 hn => ?_, h2⟩
    simp only [stp, List.map_cons, av]
    rw [if_neg (nz_of h9), div_wr h0 h9]
    exact h1 n9 hn
  · exact h.elim
theorem sv_irem {f : Nat} {mm : MT} {pc n a b : Nat} {v : Int32} {ls : AL} {st : List AV} {I : Mm} {P : Option Value → Mm → Prop} {kn : Nat → AL → List AV → Mm → Prop} {cz : Nat → List AV → Mm → (NV → Mm → Prop) → Prop} {cv : Nat → List AV → Mm → (Mm → Prop) → Prop} {cr : Nat → List AV → Mm → (RF → Mm → Prop) → Prop} {rt : AR → Mm → Prop} (hm : mT f = some mm) (hls : okFL ls) (hst : okFS st) (hkn : ∀ pc ls st I, okFL ls → okFS st → kn pc ls st I → GoI f pc (avL ls) (st.map av) I P) (hl : lkE (cd f) pc = some (pc, .irem, n, v, a, b)) (h : vst mm (pc, .irem, n, v, a, b) ls st I kn cz cv cr rt) : GoI f pc (avL ls) (st.map av) I P := by
  simp only [vst] at h
  split at h
  · rename_i y x st'
    rw [vi_wr (okFS_head hst), vi_wr (okFS_head (okFS_tail hst))] at h
    obtain ⟨⟨h0, h9⟩, h⟩ := h
    have K := hkn _ _ _ _ hls (okFS_cons (okF_1 (mod_in (wr_in _) h0 h9) 1) (okFS_tail (okFS_tail hst))) h
    refine GoI.of_stp hm hl ?_
    intro N M G hS
    obtain ⟨n0, r0, I0, h1, h2⟩ := K N M G hS
    refine ⟨n0, r0, I0, fun n9 hn => ?_, h2⟩
    simp only [stp, List.map_cons, av]
    rw [if_neg (nz_of h9), mod_wr h0 h9]
    exact h1 n9 hn
  · exact h.elim
