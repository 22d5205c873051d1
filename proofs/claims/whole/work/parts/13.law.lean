/-! THE CLAIM OUT OF ONE WALK OF THE LAW'S BODY. Your part is whole_start (and what it stands on); all else here is the same for every law, but numbers. -/
def R_law : String := "IndexedTableLaw"
def lw_P (b : Addr) (xs : List Int32) (args : Array Value) (s : State) : Prop := args = #[.ref b] ∧ s.IntsAt b xs ∧ xs.length ≤ 3072 ∧ (Jvm.Cond.and given_1 narrow_1).before args s = true
def lw_Q (_ : Array Value) (s : State) (o : Outcome) (t : State) : Prop := o = .returned (some (.int 1)) ∧ Framed s o t [] 600000 7302250
def lw_Z (below : List Frame) (a : Array Value) (s : State) : State → Prop := fun t => ∃ o, t.status = .running ∧ Ended t below o ∧ lw_Q a s o t
/-- the law's own end, with 1 on the stack, nothing written that was there before, its room as the claim has it -/
theorem lw_ret {p : Program} {l : Launch} {e : Env} {s : State} {m : MethodId} {below : List Frame} {meth : Method} {c : Code} {b : Nat} (hx : p.tables.exec = Jvm.exec) (hb : c.code = code) (hr : meth.sig.returnType = ret) (hlocks : meth.locks = false) {pc : Nat} {H : Heap} {ls : Array Slot} (hdg : decode code pc = .ok (.ireturn, 1)) : W p l e room_1 s m #[Value.ref b] below meth c H [] 600000 7302250 (lw_Z below #[Value.ref b] s) (F0 m pc ls [.int 1]) := by
  intro T hT X
  obtain ⟨fs, hret, hrun, hended, hW, hframe⟩ := X.leave (v := some (.int 1)) (hlocks := hlocks) (fun h => by rw [hr] at h; cases h)
  have hmeth' : T.vm.method? m = some meth := X.method'
  refine ⟨T.setFrames fs, ?_, .returned (some (.int 1)), hrun, hended, rfl, ⟨_, rfl⟩, hW, hframe⟩
  jvm_step X.here [X.here.top, hx, hb, hdg, hmeth', hr, ret, narrow_b1]
  (try refine ⟨rfl, ?_⟩); (try refine ⟨rfl, ?_⟩)
  first | (intro acts; rw [hret _ acts rfl rfl rfl]) | rw [hret _ _ rfl rfl rfl]
  exact Steps.refl _
/-- what holds at the law's entry: the machine, the code, the tables' words (any of lw_tbl by 'hts w (by decide +kernel)'), the script of L ints xs at the cell b, what the Statement gives of the start (any of its parts by flat_of_before) -/
def lw_At (p : Program) (s : State) (m : MethodId) (meth : Method) (c : Code) (b L : Nat) (xs : Nat → Int32) : Prop :=
  p.tables.exec = Jvm.exec ∧ c.code = code ∧ meth.sig.returnType = ret ∧ c.maxLocals = 4 ∧ s.vm.findClass R_law = some m.cls ∧ (∀ w ∈ lw_tbl, w.before #[Value.ref b] s = true) ∧ va_X b L xs s s.heap ∧ b < s.heap.size ∧ meth.locks = false ∧ (Jvm.Cond.and given_1 narrow_1).before #[Value.ref b] s = true
theorem cls_known {args : Array Value} {s : State} (hts : ∀ w ∈ lw_tbl, w.before args s = true) : ∃ (dC : Nat → ClassId) (dI : Nat → Nat → Nat), ∀ (k : Nat) (q : vw_C), vwCl[k]? = some q → u_Kn s q.1 q.2.1 q.2.2 (dC k) (dI k) := by
  have key : ∀ k, k < 10 → ∃ (c : ClassId) (i : Nat → Nat), u_Kn s (RC k) (TC k) (NC k) c i := fun k hk =>
    u_known (C := RC k) (T := TC k) (N := NC k) (n := NC k) hts (hinC k hk) (hts _ (instC k hk).1)
  refine ⟨fun k => if hk : k < 10 then (key k hk).choose else 0, fun k => if hk : k < 10 then (key k hk).choose_spec.choose else fun _ => 0, ?_⟩
  intro k q hq
  have hk : k < 10 := (List.getElem?_eq_some_iff.mp hq).1
  rw [vwC k hk] at hq
  cases hq
  simp only [dif_pos hk]
  exact (key k hk).choose_spec.choose_spec
theorem arr_known {args : Array Value} {s : State} {ty : FieldType} (h : (Cond.arrayClass ty).before args s = true) : ∃ cA : ClassId, ArrOfT s cA ty ∧ s.vm.findClass ("[" ++ ty.toString) = some cA := by
  obtain ⟨c, k, comp, h1, h2, h3⟩ := Cond.arrayClass_spec h
  exact ⟨c, fun n z => ⟨fun k h => (by cases h), k, h2, comp, h3⟩, h1⟩
theorem arq_known {args : Array Value} {s : State} {C : String} (h : (Cond.arrayOver (.object C)).before args s = true) : ∃ cA : ClassId, ArrOfT s cA (.object C) ∧ va_RA s cA (.object C) := by
  obtain ⟨comp, c, k, h1, h2, h3, h4, h5⟩ := Cond.arrayOver_spec h
  exact ⟨c, fun n z => ⟨fun k h => (by cases h), k, h3, comp, h4⟩, k, comp, h3, h4, h1, h5⟩
def sg0 : Sg := (0, 0, fun _ => (0, 0, fun _ => none), fun _ _ => 0)
def mLaw : MT := (yL_law, code, 4, (some .boolean), 10, 1, 10, 238, 0)
theorem mT_law : mT 215 = some mLaw := rfl
/-- THE LAW, FROM THE FLAT MACHINE'S RUN OF IT -/
theorem law_of_run (l : Launch) {L : Nat} {xs : Nat → Int32} {n : Nat} {σ' : Sg} (hrun : run n (some (L, xs)) 215 0 [some (.retAddr 0), none, none, none] [] sg0 = some (some (.int 1), σ')) (hc : σ'.1 ≤ 600000) (hsl : σ'.2.1 ≤ 7302250)
    {p : Program} {e : Env} {s : State} {m : MethodId} {below : List Frame} {meth : Method} {c : Code} {b : Nat} (C0 : lw_At p s m meth c b L xs) : W p l e room_1 s m #[Value.ref b] below meth c s.heap [] 0 0 (lw_Z below #[Value.ref b] s) (entryFrame m ([Value.ref b] : List Value).toArray 4) := by
  obtain ⟨hx, hb, hr, hml, hown, hts, hX, hbl, hlocks, hgv⟩ := id C0
  have hwf : wfG sg0 := fun k hk => absurd hk (Nat.not_lt_zero _)
  obtain ⟨a1, a2, a3, a4, K⟩ := run_sound l n (some (L, xs)) 215 mLaw 0 [some (.retAddr 0), none, none, none] [] sg0 _ σ' mT_law hrun hwf
  obtain ⟨dC, dI, hKc⟩ := cls_known hts
  obtain ⟨c0, z0, y0⟩ := arr_known (hts _ ww_ari)
  obtain ⟨c1, z1, y1⟩ := arr_known (hts _ ww_arz)
  obtain ⟨c2, z2, y2⟩ := arq_known (hts _ ww_ao6)
  obtain ⟨c3, z3, y3⟩ := arq_known (hts _ ww_ao2)
  have hK : va_K (dC, dI) vwCl (tysO (fun k => if k = 0 then c0 else if k = 1 then c1 else if k = 2 then c2 else c3)) s := by
    refine ⟨hKc, fun k q hq => ?_⟩
    match k, hq with
    | 0, hq => cases hq; exact ⟨z0, y0⟩
    | 1, hq => cases hq; exact ⟨z1, y1⟩
    | 2, hq => cases hq; exact ⟨z2, y2⟩
    | 3, hq => cases hq; exact ⟨z3, y3⟩
    | k + 4, hq => cases hq
  have hKO : KO (dC, dI) (fun k => if k = 0 then c0 else if k = 1 then c1 else if k = 2 then c2 else c3) s := ⟨hK, va_AO.of (hts _ ww_ao6), va_AO.of (hts _ ww_ao2), fun e he => va_Nw.of rfl (hts _ (ntT_ok e he))⟩
  have hC : Ctx p room_1 s m #[Value.ref b] meth c mLaw := ⟨hx, hb, hr, hml, hown, fun w hw => hts w (List.mem_filter.mp hw).1, by decide, by decide, hlocks, fun h => absurd h (by decide)⟩
  have hl := lv_entry ([.ref b]) (n := 4) (Nat.le_of_ble_eq_true rfl)
  rw [lg_entry_eq]
  refine K p e room_1 s m #[Value.ref b] below meth c s.heap s.heap [] 0 0 (lw_Z below #[Value.ref b] s) (fun q => s.heap.size ≤ q) (dC, dI) _ (fun _ => 0) b _ hC ⟨fun k q h => by simp [wsO, sg0] at h, ⟨fun i j p q h => by simp [wsO, sg0] at h, fun k q h => by simp [wsO, sg0] at h⟩, hKO, va_S.rf, fun _ h => h, fun L' xs' h => by cases h; exact ⟨hX, hbl, Nat.not_le.mpr hbl⟩⟩ ⟨hl.1, hl.2.1, ?_⟩ rfl (by show 0 + (σ'.1 - 0) ≤ 600000; omega) (by show 0 + (σ'.2.1 - 0) ≤ 7302250; omega) ?_
  · intro i v hv
    match i, hv with
    | 0, hv =>
      cases hv
      exact ⟨hl.2.2 (0, .ref b) List.mem_cons_self, rfl⟩
    | 1, hv => cases hv
    | 2, hv => cases hv
    | 3, hv => cases hv
    | i + 4, hv => cases hv
  · intro ad' H' locs' pc' la' h1 Hh hR
    refine va_forget (fun q hq => Hh.2.2.2.1.2.2 q hq) ?_
    refine W.widen (k := 600000) (n := 7302250) (by show 0 + (σ'.1 - 0) ≤ 600000; omega) (by show 0 + (σ'.2.1 - 0) ≤ 7302250; omega) ?_
    exact lw_ret hx hb hr hlocks hR.2
