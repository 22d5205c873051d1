/-! THE FLAT MACHINE AND THE MACHINE: worlds, locals, words -/
def fvL (ad : Nat → Nat) (rf : Nat → Option Nat) (iv : Nat → Int32) : List Nat → Nat → List Value
  | [], _ => []
  | b :: bs, j => (if b = 2 then va_rf ((rf j).map ad) else .int (iv j)) :: fvL ad rf iv bs (j + 1)
def cE (cy : Nat → ClassId) (ad : Nat → Nat) (g : Nat × Nat × (Nat → Option Nat)) (iv : Nat → Int32) : va_E :=
  if g.1 = 10 then .inl (cy 0, g.2.1, .inl iv) else if g.1 = 11 then .inl (cy 1, g.2.1, .inl iv)
  else if g.1 = 12 then .inl (cy 2, g.2.1, .inr (.inr (.inr (.inr (fun j => (g.2.2 j).map ad)))))
  else if g.1 = 13 then .inl (cy 3, g.2.1, .inr (.inr (.inr (.inr (fun j => (g.2.2 j).map ad)))))
  else .inr (g.1, fvL ad g.2.2 iv (ftk g.1) 0)
def wsO (cy : Nat → ClassId) (ad : Nat → Nat) (σ : Sg) : va_W := (List.range σ.1).map (fun k => (ad k, cE cy ad (σ.2.2.1 k) (σ.2.2.2 k)))
def tysO (cy : Nat → ClassId) : List (ClassId × FieldType) := [(cy 0, .int), (cy 1, .boolean), (cy 2, .object RX6), (cy 3, .object RX2)]
def WS : List Cond := lw_tbl.filter goodWord
def wfG (σ : Sg) : Prop := ∀ k, k < σ.1 → ∀ j q, (σ.2.2.1 k).2.2 j = some q → q < σ.1
theorem fvL_get (ad : Nat → Nat) (rf : Nat → Option Nat) (iv : Nat → Int32) : ∀ (bs : List Nat) (j k : Nat), (fvL ad rf iv bs j)[k]? = (bs[k]?).map (fun b => if b = 2 then va_rf ((rf (j + k)).map ad) else .int (iv (j + k)))
  | [], j, k => by simp [fvL]
  | b :: bs, j, 0 => by simp [fvL]
  | b :: bs, j, k + 1 => by
    simp only [fvL, List.getElem?_cons_succ]
    rw [fvL_get ad rf iv bs (j + 1) k]
    rw [show j + 1 + k = j + (k + 1) by omega]
theorem fvL_len (ad : Nat → Nat) (rf : Nat → Option Nat) (iv : Nat → Int32) : ∀ (bs : List Nat) (j : Nat), (fvL ad rf iv bs j).length = bs.length
  | [], _ => rfl
  | b :: bs, j => by simp [fvL, fvL_len ad rf iv bs (j + 1)]
theorem fvL_setI (ad : Nat → Nat) (rf : Nat → Option Nat) (iv : Nat → Int32) (bs : List Nat) (k b : Nat) (x : Int32) (h : bs[k]? = some b) (hb : b ≠ 2) : (fvL ad rf iv bs 0).set k (.int x) = fvL ad rf (upd iv k x) bs 0 := by
  apply List.ext_getElem?
  intro i
  rw [List.getElem?_set, fvL_get, fvL_get, fvL_len]
  have hl : k < bs.length := (List.getElem?_eq_some_iff.mp h).1
  by_cases hi : k = i
  · subst hi
    rw [if_pos rfl, if_pos hl, h]
    simp [hb, upd]
  · rw [if_neg hi]
    cases hc : bs[i]? with
    | none => simp
    | some c =>
      by_cases h2 : c = 2
      · simp [h2]
      · simp [h2, upd, Ne.symm hi]
theorem fvL_setR (ad : Nat → Nat) (rf : Nat → Option Nat) (iv : Nat → Int32) (bs : List Nat) (k q : Nat) (h : bs[k]? = some 2) : (fvL ad rf iv bs 0).set k (.ref (ad q)) = fvL ad (va_up rf k (some q)) iv bs 0 := by
  apply List.ext_getElem?
  intro i
  rw [List.getElem?_set, fvL_get, fvL_get, fvL_len]
  have hl : k < bs.length := (List.getElem?_eq_some_iff.mp h).1
  by_cases hi : k = i
  · subst hi
    rw [if_pos rfl, if_pos hl, h]
    simp [va_up, va_rf]
  · rw [if_neg hi]
    cases hc : bs[i]? with
    | none => simp
    | some c =>
      by_cases h2 : c = 2
      · simp [h2, va_up, Ne.symm hi]
      · simp [h2]
theorem fvL_congr {ad ad' : Nat → Nat} {rf : Nat → Option Nat} {iv : Nat → Int32} (h : ∀ j, (rf j).map ad = (rf j).map ad') : ∀ (bs : List Nat) (j : Nat), fvL ad rf iv bs j = fvL ad' rf iv bs j
  | [], _ => rfl
  | b :: bs, j => by simp [fvL, h, fvL_congr h bs (j + 1)]
theorem wsO_len (cy : Nat → ClassId) (ad : Nat → Nat) (σ : Sg) : (wsO cy ad σ).length = σ.1 := by simp [wsO]
theorem wsO_get {cy : Nat → ClassId} {ad : Nat → Nat} {σ : Sg} {k : Nat} (h : k < σ.1) : (wsO cy ad σ)[k]? = some (ad k, cE cy ad (σ.2.2.1 k) (σ.2.2.2 k)) := by
  simp [wsO, h]
theorem wsO_set {cy : Nat → ClassId} {ad : Nat → Nat} {N M : Nat} {G G' : Gm} {I I' : Nat → Nat → Int32} {k : Nat} {e : va_E} (he : e = cE cy ad (G' k) (I' k)) (hG : ∀ j, j ≠ k → G' j = G j) (hI : ∀ j, j ≠ k → I' j = I j) : (wsO cy ad (N, M, G, I)).set k (ad k, e) = wsO cy ad (N, M, G', I') := by
  apply List.ext_getElem?
  intro i
  rw [List.getElem?_set, wsO_len]
  by_cases hN : i < N
  · rw [wsO_get (σ := (N, M, G', I')) hN]
    by_cases hi : k = i
    · subst hi
      simp [hN, he]
    · rw [if_neg hi, wsO_get (σ := (N, M, G, I)) hN]
      simp [hG i (Ne.symm hi), hI i (Ne.symm hi)]
  · rw [List.getElem?_eq_none (by rw [wsO_len]; exact Nat.le_of_not_lt hN), List.getElem?_eq_none (by rw [wsO_len]; exact Nat.le_of_not_lt hN)]
    by_cases hi : k = i
    · subst hi; simp [hN]
    · rw [if_neg hi]
theorem cE_congr {cy : Nat → ClassId} {ad ad' : Nat → Nat} {g : Nat × Nat × (Nat → Option Nat)} {iv : Nat → Int32} (h : ∀ j, (g.2.2 j).map ad = (g.2.2 j).map ad') : cE cy ad g iv = cE cy ad' g iv := by
  unfold cE
  rw [fvL_congr h]
  simp only [h]
theorem wsO_push {cy : Nat → ClassId} {ad : Nat → Nat} {σ : Sg} {q kd len sl : Nat} (hw : wfG σ) : wsO cy (va_up ad σ.1 q) (nwC σ kd len sl) = wsO cy ad σ ++ [(q, cE cy (va_up ad σ.1 q) (kd, len, fun _ => none) (fun _ => 0))] := by
  apply List.ext_getElem?
  intro i
  rcases Nat.lt_trichotomy i σ.1 with h | h | h
  · rw [List.getElem?_append_left (by rw [wsO_len]; exact h), wsO_get h, wsO_get (σ := nwC σ kd len sl) (Nat.lt_succ_of_lt h)]
    have h1 : (nwC σ kd len sl).2.2.1 i = σ.2.2.1 i := va_up_ne _ _ (Nat.ne_of_lt h)
    have h2 : (nwC σ kd len sl).2.2.2 i = σ.2.2.2 i := va_up_ne _ _ (Nat.ne_of_lt h)
    rw [h1, h2, va_up_ne _ _ (Nat.ne_of_lt h)]
    rw [cE_congr (ad := va_up ad σ.1 q) (ad' := ad)]
    intro j
    cases hj : (σ.2.2.1 i).2.2 j with
    | none => rfl
    | some z => simp [va_up_ne _ _ (Nat.ne_of_lt (hw i h j z hj))]
  · subst h
    rw [List.getElem?_append_right (by rw [wsO_len]; exact Nat.le_refl _), wsO_get (σ := nwC σ kd len sl) (Nat.lt_succ_self _), wsO_len]
    have h1 : (nwC σ kd len sl).2.2.1 σ.1 = (kd, len, fun _ => none) := va_up_self _ _ _
    have h2 : (nwC σ kd len sl).2.2.2 σ.1 = (fun _ => 0) := va_up_self _ _ _
    rw [h1, h2, va_up_self]
    simp
  · rw [List.getElem?_eq_none (by rw [wsO_len]; exact h), List.getElem?_eq_none (by simp [wsO_len]; exact h)]
/-! the classes -/
theorem vwC : ∀ a, a < 10 → vwCl[a]? = some (RC a, TC a, NC a)
  | 0, _ => rfl
  | 1, _ => rfl
  | 2, _ => rfl
  | 3, _ => rfl
  | 4, _ => rfl
  | 5, _ => rfl
  | 6, _ => rfl
  | 7, _ => rfl
  | 8, _ => rfl
  | 9, _ => rfl
  | n + 10, h => absurd h (by omega)
theorem hinC : ∀ a, a < 10 → ∀ w ∈ u_ws (RC a) (TC a) (NC a), w ∈ lw_tbl
  | 0, _ => hin0
  | 1, _ => hin1
  | 2, _ => hin2
  | 3, _ => hin3
  | 4, _ => hin4
  | 5, _ => hin5
  | 6, _ => hin6
  | 7, _ => hin7
  | 8, _ => hin8
  | 9, _ => hin9
  | n + 10, h => absurd h (by omega)
theorem hgdC : ∀ a, a < 10 → ∀ w ∈ u_ws (RC a) (TC a) (NC a), goodWord w = true := by decide +kernel
theorem hinW (a : Nat) (h : a < 10) : ∀ w ∈ u_ws (RC a) (TC a) (NC a), w ∈ WS := fun w hw => List.mem_filter.mpr ⟨hinC a h w hw, hgdC a h w hw⟩
theorem tyC_ok : ∀ a, a < 10 → ∀ k, k < NC a → parseFieldDescriptor (TC a k).2.2.1 = some (tyC a k)
  | 0, _ => tyX0_ok
  | 1, _ => tyX1_ok
  | 2, _ => tyX2_ok
  | 3, _ => tyX3_ok
  | 4, _ => tyX4_ok
  | 5, _ => tyX5_ok
  | 6, _ => tyX6_ok
  | 7, _ => tyX7_ok
  | 8, _ => tyX8_ok
  | 9, _ => tyX9_ok
  | n + 10, h => absurd h (by omega)
theorem nmC : ∀ c, c < 10 → ∀ a, a < NC c → ∀ b, b < NC c → a ≠ b → (TC c a).2.1 ≠ (TC c b).2.1
  | 0, _ => nmX0
  | 1, _ => nmX1
  | 2, _ => nmX2
  | 3, _ => nmX3
  | 4, _ => nmX4
  | 5, _ => nmX5
  | 6, _ => nmX6
  | 7, _ => nmX7
  | 8, _ => nmX8
  | 9, _ => nmX9
  | n + 10, h => absurd h (by omega)
theorem instC : ∀ a, a < 10 → Cond.instantiable (RC a) (NC a) ∈ lw_tbl ∧ Cond.initialized (RC a) ∈ lw_tbl
  | 0, _ => ⟨hnew0, hini0⟩
  | 1, _ => ⟨hnew1, hini1⟩
  | 2, _ => ⟨hnew2, hini2⟩
  | 3, _ => ⟨hnew3, hini3⟩
  | 4, _ => ⟨hnew4, hini4⟩
  | 5, _ => ⟨hnew5, hini5⟩
  | 6, _ => ⟨hnew6, hini6⟩
  | 7, _ => ⟨hnew7, hini7⟩
  | 8, _ => ⟨hnew8, hini8⟩
  | 9, _ => ⟨hnew9, hini9⟩
  | n + 10, h => absurd h (by omega)
def isRT (t : FieldType) : Bool := match t with
  | .object _ => true
  | .array _ => true
  | _ => false
theorem ftk_ty : ∀ a, a < 10 → ∀ b, b < NC a → ((ftk a)[b]? = some 0 → tyC a b = .int) ∧ ((ftk a)[b]? = some 1 → tyC a b = .boolean) ∧ ((ftk a)[b]? = some 2 → isRT (tyC a b) = true) ∧ ((ftk a)[b]? = some 2 ↔ (TC a b).2.2.2 = true) ∧ (ftk a).length = NC a := by decide +kernel
theorem NC_pos {a b : Nat} (h : b < NC a) : a < 10 := by
  match a, h with
  | 0, _ => decide
  | 1, _ => decide
  | 2, _ => decide
  | 3, _ => decide
  | 4, _ => decide
  | 5, _ => decide
  | 6, _ => decide
  | 7, _ => decide
  | 8, _ => decide
  | 9, _ => decide
  | n + 10, h => exact absurd h (Nat.not_lt_zero _)
theorem rt_fit {t : FieldType} (h : isRT t = true) (q : Nat) : narrow t (.ref q) = .ref q ∧ fits t (.ref q) = true := by
  cases t <;> first | exact ⟨rfl, rfl⟩ | cases h
theorem bo_fit {x : Int32} (h : x = 0 ∨ x = 1) : narrow .boolean (.int x) = .int x ∧ fits .boolean (.int x) = true ∧ vp_nar .boolean x = x := by
  rcases h with rfl | rfl <;> exact ⟨rfl, rfl, rfl⟩
def dfL : List Nat → List Value := List.map (fun b => if b = 2 then .null else .int 0)
theorem dfL_eq (ad : Nat → Nat) : ∀ (bs : List Nat) (j : Nat), fvL ad (fun _ => none) (fun _ => 0) bs j = dfL bs
  | [], _ => rfl
  | b :: bs, j => by
    simp only [fvL, dfL, List.map_cons, Option.map_none]
    rw [dfL_eq ad bs (j + 1)]
    rfl
theorem dfC : ∀ a, a < 10 → ∀ j, j < NC a → defaultValue (tyC a j) = vp_V (dfL (ftk a)) j := by decide +kernel
/-! locals -/
def vz (ad : Nat → Nat) (b : Nat) (v : Value) : Value := match v with
  | .ref k => .ref (ad k)
  | .retAddr _ => .ref b
  | v => v
def LV (ad : Nat → Nat) (b : Nat) (la : Array Slot) (ls : Lc) : Prop := la.size = ls.length ∧ lv_wf la ∧ ∀ (i : Nat) (v : Value), ls[i]? = some (some v) → la[i]? = some (.val (vz ad b v)) ∧ (vz ad b v).category = 1
def lvP (ad : Nat → Nat) (b : Nat) (ls : Lc) : List (Nat × Value) := (List.range ls.length).filterMap (fun i => match ls[i]? with
  | some (some v) => some (i, vz ad b v)
  | _ => none)
theorem lvP_mem {ad : Nat → Nat} {b : Nat} {ls : Lc} {q : Nat × Value} : q ∈ lvP ad b ls ↔ ∃ v, ls[q.1]? = some (some v) ∧ q.2 = vz ad b v := by
  unfold lvP
  rw [List.mem_filterMap]
  constructor
  · rintro ⟨i, -, h⟩
    split at h
    · rename_i v hv
      cases h
      exact ⟨v, hv, rfl⟩
    · cases h
  · rintro ⟨v, h1, h2⟩
    refine ⟨q.1, List.mem_range.mpr (List.getElem?_eq_some_iff.mp h1).1, ?_⟩
    rw [h1]
    show some (q.1, vz ad b v) = some q
    rw [← h2]
theorem LV.has {ad : Nat → Nat} {b : Nat} {la : Array Slot} {ls : Lc} (h : LV ad b la ls) : lv_has la ls.length (lvP ad b ls) := by
  refine ⟨h.1, h.2.1, fun q hq => ?_⟩
  obtain ⟨v, h1, h2⟩ := lvP_mem.mp hq
  rw [h2]
  exact (h.2.2 _ _ h1).1
theorem LV.put {ad : Nat → Nat} {b : Nat} {la la' : Array Slot} {ls : Lc} {i : Nat} {v : Value} {n : Nat} (h : LV ad b la ls) (hn : n = ls.length) (hc : (vz ad b v).category = 1) (h' : lv_has la' n ((i, vz ad b v) :: (lvP ad b ls).filter (fun q => !(q.1 == i) && !(q.1 + 1 == i && q.2.category == 2)))) : LV ad b la' (ls.set i (some v)) := by
  subst hn
  refine ⟨by rw [h'.1, List.length_set], h'.2.1, fun j w hj => ?_⟩
  rw [List.getElem?_set] at hj
  by_cases hij : i = j
  · subst hij
    by_cases hl : i < ls.length
    · simp [hl] at hj
      subst hj
      exact ⟨h'.2.2 (i, vz ad b v) List.mem_cons_self, hc⟩
    · simp [hl] at hj
  · rw [if_neg hij] at hj
    have hq := h.2.2 j w hj
    refine ⟨h'.2.2 (j, vz ad b w) (List.mem_cons_of_mem _ (List.mem_filter.mpr ⟨lvP_mem.mpr ⟨w, hj, rfl⟩, ?_⟩)), hq.2⟩
    have : ¬ j = i := fun e => hij e.symm
    simp [this, hq.2]
theorem vz_ok {ad ad' : Nat → Nat} {b N : Nat} {v : Value} (h : okv N v = true) (ha : ∀ k, k < N → ad' k = ad k) : vz ad' b v = vz ad b v := by
  cases v <;> first | rfl | (simp [okv] at h; done) | (simp only [okv, decide_eq_true_eq] at h; simp only [vz, ha _ h])
theorem vz_oka {ad : Nat → Nat} {b b' N : Nat} {v : Value} (h : oka N v = true) : vz ad b v = vz ad b' v := by
  cases v <;> first | rfl | (simp [oka] at h; done)
theorem oka_okv {N : Nat} {v : Value} (h : oka N v = true) : okv N v = true := by
  cases v <;> first | exact h | (simp [oka] at h; done)
theorem vz_cat {ad : Nat → Nat} {b N : Nat} {v : Value} (h : okv N v = true) : (vz ad b v).category = 1 := by
  cases v <;> first | rfl | (simp [okv] at h; done)
theorem vz_all {ad ad' : Nat → Nat} {b N : Nat} (ha : ∀ k, k < N → ad' k = ad k) : ∀ {st : List Value}, st.all (okv N) = true → st.map (vz ad' b) = st.map (vz ad b)
  | [], _ => rfl
  | v :: st, h => by
    simp only [List.all_cons, Bool.and_eq_true] at h
    simp only [List.map_cons, vz_ok h.1 ha, vz_all ha h.2]
theorem cat_all {ad : Nat → Nat} {b N : Nat} : ∀ {st : List Value}, st.all (okv N) = true → ((st.map (vz ad b)).map fun v => v.category).sum = st.length
  | [], _ => rfl
  | v :: st, h => by
    simp only [List.all_cons, Bool.and_eq_true] at h
    simp only [List.map_cons, List.sum_cons, List.length_cons, vz_cat h.1, cat_all h.2]
    omega
theorem LV.moved {ad ad' : Nat → Nat} {b N : Nat} {la : Array Slot} {ls : Lc} (h : LV ad b la ls) (hk : okl N ls = true) (ha : ∀ k, k < N → ad' k = ad k) : LV ad' b la ls := by
  refine ⟨h.1, h.2.1, fun i v hv => ?_⟩
  have hm : some v ∈ ls := List.mem_of_getElem? hv
  have h1 := List.all_eq_true.mp hk _ hm
  rw [vz_ok (b := b) h1 ha]
  exact h.2.2 i v hv
