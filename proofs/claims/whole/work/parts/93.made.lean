/-! BOTH ARE MADE: the shape, the empty state -/
def chk1 (G : Gm) (t B : Nat) : Bool := (List.range 48).all (fun o => decide (tkd t o = 99) || (decide (adr (t, B, o) < 260) && (decide ((G (adr (t, B, o))).1 = tkd t o) && (decide ((G (adr (t, B, o))).2.1 = tln t o) && (List.range 55).all (fun j => match trf t o j with
  | some o' => decide ((G (adr (t, B, o))).2.2 j = some (adr (t, B, o'))) && !decide (tkd t o' = 99)
  | none => true)))))
def chkA (G : Gm) : Bool := chk1 G 0 0 && ((List.range 8).all (fun j => chk1 G 1 (22 + 5 * j)) && ((List.range 6).all (fun j => chk1 G 2 (62 + 25 * j)) && (chk1 G 3 0 && ([2, 4, 8, 10].all (fun B => chk1 G 4 B) && ([15, 17].all (fun B => chk1 G 5 B) && ([1, 7].all (fun B => chk1 G 6 B) && ([213, 214].all (fun B => chk1 G 7 B) && (chk1 G 8 255 && ((List.range 8).all (fun j => decide ((G 13).2.2 j = some (22 + 5 * j))) && (List.range 6).all (fun j => decide ((G 14).2.2 j = some (62 + 25 * j))))))))))))
theorem tkdLt {t o : Nat} (h : ¬ tkd t o = 99) : o < 48 := by
  apply Classical.byContradiction
  intro hn
  apply h
  have g : ∀ l : List Nat, l.length ≤ 48 → (l[o]?).getD 99 = 99 := fun l hl => by rw [List.getElem?_eq_none (by omega)]; rfl
  unfold tkd
  split <;> first | exact g _ (by decide) | rfl
theorem chk1_ok {G : Gm} {t B : Nat} (h : chk1 G t B = true) {o : Nat} (ho : ¬ tkd t o = 99) : adr (t, B, o) < 260 ∧ (G (adr (t, B, o))).1 = tkd t o ∧ (G (adr (t, B, o))).2.1 = tln t o ∧ ∀ j o', trf t o j = some o' → (G (adr (t, B, o))).2.2 j = some (adr (t, B, o')) ∧ ¬ tkd t o' = 99 := by
  unfold chk1 at h
  have h := List.all_eq_true.mp h o (List.mem_range.mpr (tkdLt ho))
  rw [decide_eq_false ho, Bool.false_or, Bool.and_eq_true, Bool.and_eq_true, Bool.and_eq_true] at h
  obtain ⟨h1, h2, h3, h4⟩ := h
  refine ⟨of_decide_eq_true h1, of_decide_eq_true h2, of_decide_eq_true h3, fun j o' hj => ?_⟩
  have := List.all_eq_true.mp h4 j (List.mem_range.mpr (trfLt hj).2.2)
  rw [hj] at this
  dsimp only at this
  rw [Bool.and_eq_true] at this
  refine ⟨of_decide_eq_true this.1, fun z => ?_⟩
  rw [decide_eq_true z] at this
  exact absurd this.2 (by decide)
theorem shp_of {G : Gm} (h : chkA G = true) : Shp 260 G := by
  unfold chkA at h
  simp only [Bool.and_eq_true] at h
  obtain ⟨c0, c1, c2, c3, c4, c5, c6, c7, c8, c9, c10⟩ := h
  refine ⟨fun q hv ho => ?_, fun j hj => of_decide_eq_true (List.all_eq_true.mp c9 j (List.mem_range.mpr hj)), fun j hj => of_decide_eq_true (List.all_eq_true.mp c10 j (List.mem_range.mpr hj))⟩
  obtain ⟨t, B, o⟩ := q
  match t, hv, ho with
  | 0, _, ho => exact chk1_ok c0 ho
  | 1, hv, ho =>
    obtain ⟨j, hj, e⟩ := hv
    have e : B = 22 + 5 * j := e
    subst e
    exact chk1_ok (List.all_eq_true.mp c1 j (List.mem_range.mpr hj)) ho
  | 2, hv, ho =>
    obtain ⟨j, hj, e⟩ := hv
    have e : B = 62 + 25 * j := e
    subst e
    exact chk1_ok (List.all_eq_true.mp c2 j (List.mem_range.mpr hj)) ho
  | 3, _, ho => exact chk1_ok c3 ho
  | 4, hv, ho =>
    have hv : B = 2 ∨ B = 4 ∨ B = 8 ∨ B = 10 := hv
    exact chk1_ok (List.all_eq_true.mp c4 B (by simp; exact hv)) ho
  | 5, hv, ho =>
    have hv : B = 15 ∨ B = 17 := hv
    exact chk1_ok (List.all_eq_true.mp c5 B (by simp; exact hv)) ho
  | 6, hv, ho =>
    have hv : B = 1 ∨ B = 7 := hv
    exact chk1_ok (List.all_eq_true.mp c6 B (by simp; exact hv)) ho
  | 7, hv, ho =>
    have hv : B = 213 ∨ B = 214 := hv
    exact chk1_ok (List.all_eq_true.mp c7 B (by simp; exact hv)) ho
  | 8, hv, ho =>
    have hv : B = 255 := hv
    subst hv
    exact chk1_ok c8 ho
  | t + 9, hv, _ => exact absurd (show False from hv) id
def gAll : Gm := gM47 (gNew (gTab (gNew (fun _ => (0, 0, fun _ => none)) 0 8 0)) 212 9 0)
theorem gAll_ok : chkA gAll = true := by decide +kernel
theorem gAll_shp : Shp 260 gAll := shp_of gAll_ok
def x00 : Ix := ((0, 0), ((1, fun _ => 0), 0, 0, 0), (1, 0), (0, -1, -1), tE, [], [])
def S00 : St := ((fun _ => none, fun _ => none, fun _ => -1), (fun _ => 0, fun _ => []), fun _ => x00, (fun _ => -2147483648, fun _ => 2147483647), ([], -1, 0))
theorem rd_v {I : Mm} {a k : Nat} {x : Int32} {y : Int} (h : I a k = x) (hx : x.toInt = y) : rd I a k = y := by unfold rd; rw [h, hx]
theorem rd_z {I : Mm} {a : Nat} (h : I a = fun _ => 0) (k : Nat) : rd I a k = 0 := by unfold rd; rw [h]; rfl
theorem rsc0 {I : Mm} (h : FcC I) : RSC I S00 := by
  obtain ⟨h3, h5, h6, ht, hx, ⟨q9, q10, q11⟩, hl, hh⟩ := h
  refine ⟨fun p hp => ⟨imC_none (rd_z h3 _), imC_none (rd_z h5 _), rd_v (h6 p hp) rfl⟩, fun t ht' => ⟨rd_v (ht t ht') rfl, fun z => absurd rfl z⟩, fun i hi => ⟨rd_v (hx i hi).1 rfl, fun m _ => ?_, fun z => absurd rfl z⟩, fun f hf => ⟨rd_v (hl f hf) rfl, rd_v (hh f hf) rfl⟩, ⟨rd_v q9 rfl, by show ([] : List Int).length ≤ 320; simp, fun j v hj => ?_⟩, rd_v q10 rfl, rd_v q11 rfl⟩
  · have : rd I (62 + 25 * i + 8) m = 0 := rd_v ((hx i hi).2 m) rfl
    omega
  · have hj : ([] : List Int)[j]? = some v := hj
    simp at hj
theorem rsr0 {I : Mm} (h : FcR I) : RSR I S00 := by
  obtain ⟨⟨h213, h214, h215, h216, h218, h224, h243⟩, h217, ⟨q6, q8, q9⟩, hl, hh⟩ := h
  refine ⟨fun p hp => ⟨imG_none (rd_z h215 _), imG_none (rd_z h216 _), rd_v (h217 p hp) rfl, Or.inl (rd_z h215 _), Or.inl (rd_z h216 _)⟩, fun t ht' => ⟨rd_z h218 _, fun z => absurd rfl z⟩, ⟨fun m _ => ?_, fun i hi => ⟨rd_z h224 _, fun z => absurd rfl z⟩⟩, fun f hf => ⟨rd_v (hl f hf) rfl, rd_v (hh f hf) rfl⟩, ⟨rd_v q6 rfl, by show ([] : List Int).length ≤ 320; simp, fun j v hj => ?_⟩, rd_v q8 rfl, rd_v q9 rfl⟩
  · have := rd_z h243 m
    omega
  · have hj : ([] : List Int)[j]? = some v := hj
    simp at hj
theorem inv0 : Inv S00 := by
  refine ⟨fun t _ => Or.inl rfl, fun p _ => Or.inl ⟨rfl, rfl⟩, fun t _ h => absurd (show (0 : Int) = 1 from h) (by decide), fun i _ => Or.inl rfl, fun i _ h => ?_⟩
  unfold gd at h
  exact absurd rfl (of_decide_eq_true h).1
/-- what only the other side's cells change -/
theorem rsr_h {I J : Mm} {S : St} (h : HFr I J) (hS : RSR I S) : RSR J S := rsr_of (fun c h1 _ => h c (by omega)) (rd_of (h 212 (by omega)) _) (rd_of (h 212 (by omega)) _) (rd_of (h 212 (by omega)) _) hS
theorem rsc_l {I J : Mm} {S : St} (h : LFr I J) (hS : RSC I S) : RSC J S := by
  obtain ⟨r1, r2, r3, r4, r5⟩ := hS
  exact ⟨rowC_cg (h _ (by omega)) (h _ (by omega)) (h _ (by omega)) r1, fun t ht => txC_cg (fun c h1 h2 => h c (by omega)) (r2 t ht), fun i hi => ixC_fr (fun c h1 h2 => h c (by omega)) (r3 i hi), bdC_cg (h _ (by omega)) (h _ (by omega)) r4, qsC_cg (h _ (by omega)) (h _ (by omega)) r5⟩
