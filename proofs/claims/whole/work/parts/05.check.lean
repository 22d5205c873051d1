/-- does a row of part 03 say what the bytes and the words say -/
def okG (mm g : MT) (kd : Nat) : Bool := decide (g.2.2.2.2.2.2.2.2 = kd) && decide (g.2.2.2.2.2.2.1 + 1 ≤ mm.2.2.2.2.2.2.1) && decide (8 + (g.2.2.1 + 11) + g.2.2.2.2.2.2.2.1 ≤ mm.2.2.2.2.2.2.2.1)
def okE (mm : MT) (e : En) : Bool :=
  match e with
  | (pc, i, n, v, a, b) =>
  match i with
  | .iconst z => decide (n = 1) && decide (Int32.ofInt z = v)
  | .bipush z => decide (n = 2) && decide ((Int8.ofInt z).toInt32 = v)
  | .sipush z => decide (n = 3) && decide ((Int16.ofInt z).toInt32 = v)
  | .ldc x => decide (n = 2) && decide ((mm.2.2.2.2.1, x, v) ∈ cnT)
  | .iload k => decide (n = 2) && decide (k = a)
  | .aload k => decide (n = 2) && decide (k = a)
  | .istore k => decide (n = 2) && decide (k = a)
  | .astore k => decide (n = 2) && decide (k = a)
  | .iload_n k => decide (n = 1) && decide (k.val = a)
  | .aload_n k => decide (n = 1) && decide (k.val = a)
  | .istore_n k => decide (n = 1) && decide (k.val = a)
  | .astore_n k => decide (n = 1) && decide (k.val = a)
  | .iinc k z => decide (n = 3) && decide (k = a) && decide (Int32.ofInt z = v)
  | .iadd | .isub | .imul | .iand | .ixor | .idiv | .irem | .dup | .dup2 | .iaload | .baload | .iastore | .bastore | .aaload | .aastore | .arraylength | .ireturn | .areturn | .return_ => decide (n = 1)
  | .getfield x => decide (n = 3) && decide (b < NC a) && decide ((mm.2.2.2.2.1, x, a, b) ∈ flT)
  | .putfield x => decide (n = 3) && decide (b < NC a) && decide ((mm.2.2.2.2.1, x, a, b) ∈ flT) && (decide ((TC a b).2.2.2 = false) || (decide (mm.2.2.2.2.2.2.2.2 = 2) && decide ((TC a b).1 = RC mm.2.2.2.2.1)))
  | .ifCond _ off => decide (n = 3) && decide ((pc : Int) + off = (a : Int))
  | .if_icmp _ off => decide (n = 3) && decide ((pc : Int) + off = (a : Int))
  | .goto off => decide (n = 3) && decide ((pc : Int) + off = (a : Int))
  | .tableswitch d _ _ offs => decide (0 ≤ (pc : Int) + d) && offs.toList.all (fun o => decide (0 ≤ (pc : Int) + o))
  | .lookupswitch d ps => decide (0 ≤ (pc : Int) + d) && ps.toList.all (fun o => decide (0 ≤ (pc : Int) + o.2)) && ((ps.toList.zip (ps.toList.drop 1)).all (fun (a, next) => a.1 < next.1))
  | .invokevirtual x => decide (n = 3) && decide ((mm.2.2.2.2.1, x, a) ∈ mtT) && (match mT a with
    | some g => okG mm g 1
    | none => false)
  | .invokespecial x => decide (n = 3) && (if a = 902 then decide ((mm.2.2.2.2.1, x) ∈ oiT) && decide (1 ≤ mm.2.2.2.2.2.2.1) && decide (12 ≤ mm.2.2.2.2.2.2.2.1) else (decide ((mm.2.2.2.2.1, x, a) ∈ mtT) || decide ((mm.2.2.2.2.1, x, a) ∈ ntT)) && (match mT a with
    | some g => okG mm g 2
    | none => false))
  | .invokestatic x => decide (n = 3) && (if a = 900 then decide ((mm.2.2.2.2.1, x) ∈ acT) && decide (1 ≤ mm.2.2.2.2.2.2.1) && decide (18 ≤ mm.2.2.2.2.2.2.2.1) else if a = 901 then decide ((mm.2.2.2.2.1, x) ∈ mnT) && decide (1 ≤ mm.2.2.2.2.2.2.1) && decide (17 ≤ mm.2.2.2.2.2.2.2.1) else decide ((mm.2.2.2.2.1, x, a) ∈ mtT) && (match mT a with
    | some g => okG mm g 0
    | none => false))
  | .new x => decide (n = 3) && decide ((mm.2.2.2.2.1, x, a) ∈ nwT)
  | .newarray t => decide (n = 2) && ((decide (t = .int) && decide (a = 10)) || (decide (t = .boolean) && decide (a = 11)))
  | .anewarray x => decide (n = 3) && ((decide (a = 12) && decide ((mm.2.2.2.2.1, x, 6) ∈ nwT)) || (decide (a = 13) && decide ((mm.2.2.2.2.1, x, 2) ∈ nwT)))
  | _ => false
def OKM (mm : MT) (k : List En) : Prop := ∀ e ∈ k, decode mm.2.1 e.1 = .ok (e.2.1, e.2.2.1) ∧ okE mm e = true

set_option maxRecDepth 100000 in
theorem okX0_init : OKM (yX0_init, cX0_init, 2, none, 0, 2, 1, 12, 2) kX0_init := by unfold OKM; decide +kernel
set_option maxRecDepth 100000 in
theorem okX0_word : OKM (yX0_word, cX0_word, 3, (some .int), 0, 3, 0, 0, 1) kX0_word := by unfold OKM; decide +kernel
set_option maxRecDepth 100000 in
theorem okX0_set : OKM (yX0_set, cX0_set, 4, none, 0, 4, 0, 0, 1) kX0_set := by unfold OKM; decide +kernel
set_option maxRecDepth 100000 in
theorem okX0_copy : OKM (yX0_copy, cX0_copy, 4, none, 0, 4, 1, 18, 1) kX0_copy := by unfold OKM; decide +kernel
set_option maxRecDepth 100000 in
theorem okX0_compare : OKM (yX0_compare, cX0_compare, 7, (some .int), 0, 4, 0, 0, 1) kX0_compare := by unfold OKM; decide +kernel
set_option maxRecDepth 100000 in
theorem okX1_init : OKM (yX1_init, cX1_init, 2, none, 1, 2, 1, 12, 2) kX1_init := by unfold OKM; decide +kernel
set_option maxRecDepth 100000 in
theorem okX1_has : OKM (yX1_has, cX1_has, 2, (some .boolean), 1, 2, 0, 0, 1) kX1_has := by unfold OKM; decide +kernel
set_option maxRecDepth 100000 in
theorem okX1_valueOf : OKM (yX1_valueOf, cX1_valueOf, 3, (some .int), 1, 3, 0, 0, 1) kX1_valueOf := by unfold OKM; decide +kernel
set_option maxRecDepth 100000 in
theorem okX1_set : OKM (yX1_set, cX1_set, 4, none, 1, 4, 0, 0, 1) kX1_set := by unfold OKM; decide +kernel
set_option maxRecDepth 100000 in
theorem okX1_put : OKM (yX1_put, cX1_put, 7, none, 1, 6, 0, 0, 1) kX1_put := by unfold OKM; decide +kernel
set_option maxRecDepth 100000 in
theorem okX1_clear : OKM (yX1_clear, cX1_clear, 2, none, 1, 2, 0, 0, 1) kX1_clear := by unfold OKM; decide +kernel
set_option maxRecDepth 100000 in
theorem okX1_copy : OKM (yX1_copy, cX1_copy, 4, none, 1, 4, 1, 18, 1) kX1_copy := by unfold OKM; decide +kernel
set_option maxRecDepth 100000 in
theorem okX1_copyAll : OKM (yX1_copyAll, cX1_copyAll, 2, none, 1, 2, 1, 18, 1) kX1_copyAll := by unfold OKM; decide +kernel
set_option maxRecDepth 100000 in
theorem okX2_init : OKM (yX2_init, cX2_init, 1, none, 2, 1, 3, 63, 2) kX2_init := by unfold OKM; decide +kernel
set_option maxRecDepth 100000 in
theorem okX2_start : OKM (yX2_start, cX2_start, 5, none, 2, 5, 3, 63, 1) kX2_start := by unfold OKM; decide +kernel
set_option maxRecDepth 100000 in
theorem okX2_forgetEntries : OKM (yX2_forgetEntries, cX2_forgetEntries, 1, none, 2, 1, 2, 43, 1) kX2_forgetEntries := by unfold OKM; decide +kernel
set_option maxRecDepth 100000 in
theorem okX2_isBuilding : OKM (yX2_isBuilding, cX2_isBuilding, 1, (some .boolean), 2, 1, 0, 0, 1) kX2_isBuilding := by unfold OKM; decide +kernel
set_option maxRecDepth 100000 in
theorem okX2_isGuard : OKM (yX2_isGuard, cX2_isGuard, 1, (some .boolean), 2, 1, 0, 0, 1) kX2_isGuard := by unfold OKM; decide +kernel
set_option maxRecDepth 100000 in
theorem okX2_haveOneKey : OKM (yX2_haveOneKey, cX2_haveOneKey, 6, (some .boolean), 2, 5, 1, 22, 1) kX2_haveOneKey := by unfold OKM; decide +kernel
set_option maxRecDepth 100000 in
theorem okX2_makeEntry : OKM (yX2_makeEntry, cX2_makeEntry, 5, none, 2, 4, 1, 23, 1) kX2_makeEntry := by unfold OKM; decide +kernel
set_option maxRecDepth 100000 in
theorem okX2_hasKeyOf : OKM (yX2_hasKeyOf, cX2_hasKeyOf, 5, (some .boolean), 2, 3, 3, 68, 1) kX2_hasKeyOf := by unfold OKM; decide +kernel
set_option maxRecDepth 100000 in
theorem okX2_makeComing : OKM (yX2_makeComing, cX2_makeComing, 5, (some .boolean), 2, 4, 2, 47, 1) kX2_makeComing := by unfold OKM; decide +kernel
set_option maxRecDepth 100000 in
theorem okX2_makeGoing : OKM (yX2_makeGoing, cX2_makeGoing, 4, (some .boolean), 2, 4, 2, 47, 1) kX2_makeGoing := by unfold OKM; decide +kernel
set_option maxRecDepth 100000 in
theorem okX2_takeMade : OKM (yX2_takeMade, cX2_takeMade, 2, none, 2, 2, 4, 96, 1) kX2_takeMade := by unfold OKM; decide +kernel
set_option maxRecDepth 100000 in
theorem okX2_fail : OKM (yX2_fail, cX2_fail, 2, none, 2, 2, 3, 63, 1) kX2_fail := by unfold OKM; decide +kernel
set_option maxRecDepth 100000 in
theorem okX2_takeStep : OKM (yX2_takeStep, cX2_takeStep, 2, none, 2, 2, 5, 120, 1) kX2_takeStep := by unfold OKM; decide +kernel
set_option maxRecDepth 100000 in
theorem okX2_scanPage_1 : OKM (yX2_scanPage, cX2_scanPage, 4, none, 2, 2, 3, 74, 1) (kX2_scanPage.take 60) := by unfold OKM; decide +kernel
set_option maxRecDepth 100000 in
theorem okX2_scanPage_2 : OKM (yX2_scanPage, cX2_scanPage, 4, none, 2, 2, 3, 74, 1) ((kX2_scanPage.drop 60).take 60) := by unfold OKM; decide +kernel
set_option maxRecDepth 100000 in
theorem okX2_scanPage : OKM (yX2_scanPage, cX2_scanPage, 4, none, 2, 2, 3, 74, 1) kX2_scanPage := by
  have h : kX2_scanPage = kX2_scanPage.take 60 ++ ((kX2_scanPage.drop 60).take 60) := rfl
  unfold OKM
  rw [h]
  exact List.forall_mem_append.mpr ⟨okX2_scanPage_1, okX2_scanPage_2⟩
set_option maxRecDepth 100000 in
theorem okX2_loadSome : OKM (yX2_loadSome, cX2_loadSome, 3, none, 2, 1, 4, 92, 1) kX2_loadSome := by unfold OKM; decide +kernel
set_option maxRecDepth 100000 in
theorem okX2_catchUp : OKM (yX2_catchUp, cX2_catchUp, 1, none, 2, 1, 4, 96, 1) kX2_catchUp := by unfold OKM; decide +kernel
set_option maxRecDepth 100000 in
theorem okX2_finish : OKM (yX2_finish, cX2_finish, 3, none, 2, 2, 4, 98, 1) kX2_finish := by unfold OKM; decide +kernel
set_option maxRecDepth 100000 in
theorem okX2_leastWithClash : OKM (yX2_leastWithClash, cX2_leastWithClash, 7, (some .int), 2, 2, 3, 72, 1) kX2_leastWithClash := by unfold OKM; decide +kernel
set_option maxRecDepth 100000 in
theorem okX2_leastClashWith : OKM (yX2_leastClashWith, cX2_leastClashWith, 4, (some .int), 2, 3, 3, 72, 1) kX2_leastClashWith := by unfold OKM; decide +kernel
set_option maxRecDepth 100000 in
theorem okX2_isClash_1 : OKM (yX2_isClash, cX2_isClash, 6, (some .boolean), 2, 4, 2, 47, 1) (kX2_isClash.take 60) := by unfold OKM; decide +kernel
set_option maxRecDepth 100000 in
theorem okX2_isClash_2 : OKM (yX2_isClash, cX2_isClash, 6, (some .boolean), 2, 4, 2, 47, 1) ((kX2_isClash.drop 60).take 60) := by unfold OKM; decide +kernel
set_option maxRecDepth 100000 in
theorem okX2_isClash : OKM (yX2_isClash, cX2_isClash, 6, (some .boolean), 2, 4, 2, 47, 1) kX2_isClash := by
  have h : kX2_isClash = kX2_isClash.take 60 ++ ((kX2_isClash.drop 60).take 60) := rfl
  unfold OKM
  rw [h]
  exact List.forall_mem_append.mpr ⟨okX2_isClash_1, okX2_isClash_2⟩
set_option maxRecDepth 100000 in
theorem okX2_rangeSize : OKM (yX2_rangeSize, cX2_rangeSize, 5, (some .int), 2, 3, 4, 95, 1) kX2_rangeSize := by unfold OKM; decide +kernel
set_option maxRecDepth 100000 in
theorem okX2_isInRange : OKM (yX2_isInRange, cX2_isInRange, 8, (some .boolean), 2, 4, 3, 68, 1) kX2_isInRange := by unfold OKM; decide +kernel
set_option maxRecDepth 100000 in
theorem okX2_faults_1 : OKM (yX2_faults, cX2_faults, 5, (some .int), 2, 2, 4, 98, 1) (kX2_faults.take 60) := by unfold OKM; decide +kernel
set_option maxRecDepth 100000 in
theorem okX2_faults_2 : OKM (yX2_faults, cX2_faults, 5, (some .int), 2, 2, 4, 98, 1) ((kX2_faults.drop 60).take 60) := by unfold OKM; decide +kernel
set_option maxRecDepth 100000 in
theorem okX2_faults : OKM (yX2_faults, cX2_faults, 5, (some .int), 2, 2, 4, 98, 1) kX2_faults := by
  have h : kX2_faults = kX2_faults.take 60 ++ ((kX2_faults.drop 60).take 60) := rfl
  unfold OKM
  rw [h]
  exact List.forall_mem_append.mpr ⟨okX2_faults_1, okX2_faults_2⟩
set_option maxRecDepth 100000 in
theorem okX2_missing : OKM (yX2_missing, cX2_missing, 3, (some .int), 2, 3, 3, 74, 1) kX2_missing := by unfold OKM; decide +kernel
set_option maxRecDepth 100000 in
theorem okX3_init : OKM (yX3_init, cX3_init, 1, none, 3, 1, 2, 33, 2) kX3_init := by unfold OKM; decide +kernel
set_option maxRecDepth 100000 in
theorem okX3_clear : OKM (yX3_clear, cX3_clear, 1, none, 3, 1, 0, 0, 1) kX3_clear := by unfold OKM; decide +kernel
set_option maxRecDepth 100000 in
theorem okX3_isFull : OKM (yX3_isFull, cX3_isFull, 1, (some .boolean), 3, 1, 0, 0, 1) kX3_isFull := by unfold OKM; decide +kernel
set_option maxRecDepth 100000 in
theorem okX3_add : OKM (yX3_add, cX3_add, 5, none, 3, 4, 2, 41, 1) kX3_add := by unfold OKM; decide +kernel
set_option maxRecDepth 100000 in
theorem okX3_firstSlot : OKM (yX3_firstSlot, cX3_firstSlot, 1, (some .int), 3, 1, 0, 0, 1) kX3_firstSlot := by unfold OKM; decide +kernel
set_option maxRecDepth 100000 in
theorem okX3_firstCame : OKM (yX3_firstCame, cX3_firstCame, 1, (some .boolean), 3, 1, 0, 0, 1) kX3_firstCame := by unfold OKM; decide +kernel
set_option maxRecDepth 100000 in
theorem okX3_takeFirst : OKM (yX3_takeFirst, cX3_takeFirst, 1, none, 3, 1, 0, 0, 1) kX3_takeFirst := by unfold OKM; decide +kernel
set_option maxRecDepth 100000 in
theorem okX4_init : OKM (yX4_init, cX4_init, 1, none, 4, 1, 2, 33, 2) kX4_init := by unfold OKM; decide +kernel
set_option maxRecDepth 100000 in
theorem okX4_clear : OKM (yX4_clear, cX4_clear, 1, none, 4, 1, 0, 0, 1) kX4_clear := by unfold OKM; decide +kernel
set_option maxRecDepth 100000 in
theorem okX4_add : OKM (yX4_add, cX4_add, 4, none, 4, 3, 2, 51, 1) kX4_add := by unfold OKM; decide +kernel
set_option maxRecDepth 100000 in
theorem okX4_slotOf : OKM (yX4_slotOf, cX4_slotOf, 6, (some .int), 4, 2, 1, 26, 1) kX4_slotOf := by unfold OKM; decide +kernel
set_option maxRecDepth 100000 in
theorem okX4_take : OKM (yX4_take, cX4_take, 2, (some .int), 4, 1, 0, 0, 1) kX4_take := by unfold OKM; decide +kernel
set_option maxRecDepth 100000 in
theorem okX5_init : OKM (yX5_init, cX5_init, 1, none, 5, 1, 2, 33, 2) kX5_init := by unfold OKM; decide +kernel
set_option maxRecDepth 100000 in
theorem okX5_copyFrom : OKM (yX5_copyFrom, cX5_copyFrom, 2, none, 5, 2, 2, 39, 1) kX5_copyFrom := by unfold OKM; decide +kernel
set_option maxRecDepth 100000 in
theorem okX5_isFree : OKM (yX5_isFree, cX5_isFree, 2, (some .boolean), 5, 2, 1, 21, 1) kX5_isFree := by unfold OKM; decide +kernel
set_option maxRecDepth 100000 in
theorem okX5_placesInUse : OKM (yX5_placesInUse, cX5_placesInUse, 3, (some .int), 5, 1, 2, 42, 1) kX5_placesInUse := by unfold OKM; decide +kernel
set_option maxRecDepth 100000 in
theorem okX5_seenBy : OKM (yX5_seenBy, cX5_seenBy, 3, (some (.object "IndexedTable$Images")), 5, 3, 0, 0, 1) kX5_seenBy := by unfold OKM; decide +kernel
set_option maxRecDepth 100000 in
theorem okX6_init : OKM (yX6_init, cX6_init, 1, none, 6, 1, 2, 33, 2) kX6_init := by unfold OKM; decide +kernel
set_option maxRecDepth 100000 in
theorem okX6_isFull : OKM (yX6_isFull, cX6_isFull, 1, (some .boolean), 6, 1, 0, 0, 1) kX6_isFull := by unfold OKM; decide +kernel
set_option maxRecDepth 100000 in
theorem okX6_add : OKM (yX6_add, cX6_add, 3, none, 6, 3, 2, 41, 1) kX6_add := by unfold OKM; decide +kernel
set_option maxRecDepth 100000 in
theorem okX6_putBack : OKM (yX6_putBack, cX6_putBack, 4, none, 6, 3, 2, 41, 1) kX6_putBack := by unfold OKM; decide +kernel
set_option maxRecDepth 100000 in
theorem okX7_init_1 : OKM (yX7_init, cX7_init, 1, none, 7, 1, 2, 43, 2) (kX7_init.take 60) := by unfold OKM; decide +kernel
set_option maxRecDepth 100000 in
theorem okX7_init_2 : OKM (yX7_init, cX7_init, 1, none, 7, 1, 2, 43, 2) ((kX7_init.drop 60).take 60) := by unfold OKM; decide +kernel
set_option maxRecDepth 100000 in
theorem okX7_init : OKM (yX7_init, cX7_init, 1, none, 7, 1, 2, 43, 2) kX7_init := by
  have h : kX7_init = kX7_init.take 60 ++ ((kX7_init.drop 60).take 60) := rfl
  unfold OKM
  rw [h]
  exact List.forall_mem_append.mpr ⟨okX7_init_1, okX7_init_2⟩
set_option maxRecDepth 100000 in
theorem okX7_empty : OKM (yX7_empty, cX7_empty, 2, none, 7, 1, 1, 22, 1) kX7_empty := by unfold OKM; decide +kernel
set_option maxRecDepth 100000 in
theorem okX7_size : OKM (yX7_size, cX7_size, 1, (some .int), 7, 1, 0, 0, 1) kX7_size := by unfold OKM; decide +kernel
set_option maxRecDepth 100000 in
theorem okX7_nodes : OKM (yX7_nodes, cX7_nodes, 1, (some .int), 7, 1, 0, 0, 1) kX7_nodes := by unfold OKM; decide +kernel
set_option maxRecDepth 100000 in
theorem okX7_height : OKM (yX7_height, cX7_height, 3, (some .int), 7, 1, 1, 21, 1) kX7_height := by unfold OKM; decide +kernel
set_option maxRecDepth 100000 in
theorem okX7_wordAt : OKM (yX7_wordAt, cX7_wordAt, 3, (some .int), 7, 3, 2, 46, 1) kX7_wordAt := by unfold OKM; decide +kernel
set_option maxRecDepth 100000 in
theorem okX7_depthAt : OKM (yX7_depthAt, cX7_depthAt, 2, (some .int), 7, 2, 2, 46, 1) kX7_depthAt := by unfold OKM; decide +kernel
set_option maxRecDepth 100000 in
theorem okX7_holds : OKM (yX7_holds, cX7_holds, 3, (some .boolean), 7, 3, 2, 52, 1) kX7_holds := by unfold OKM; decide +kernel
set_option maxRecDepth 100000 in
theorem okX7_add : OKM (yX7_add, cX7_add, 4, none, 7, 3, 3, 69, 1) kX7_add := by unfold OKM; decide +kernel
set_option maxRecDepth 100000 in
theorem okX7_cut_1 : OKM (yX7_cut, cX7_cut, 7, none, 7, 3, 3, 70, 1) (kX7_cut.take 60) := by unfold OKM; decide +kernel
set_option maxRecDepth 100000 in
theorem okX7_cut_2 : OKM (yX7_cut, cX7_cut, 7, none, 7, 3, 3, 70, 1) ((kX7_cut.drop 60).take 60) := by unfold OKM; decide +kernel
set_option maxRecDepth 100000 in
theorem okX7_cut : OKM (yX7_cut, cX7_cut, 7, none, 7, 3, 3, 70, 1) kX7_cut := by
  have h : kX7_cut = kX7_cut.take 60 ++ ((kX7_cut.drop 60).take 60) := rfl
  unfold OKM
  rw [h]
  exact List.forall_mem_append.mpr ⟨okX7_cut_1, okX7_cut_2⟩
set_option maxRecDepth 100000 in
theorem okX7_isLowest : OKM (yX7_isLowest, cX7_isLowest, 2, (some .boolean), 7, 2, 0, 0, 1) kX7_isLowest := by unfold OKM; decide +kernel
set_option maxRecDepth 100000 in
theorem okX7_takeNode : OKM (yX7_takeNode, cX7_takeNode, 3, (some .int), 7, 1, 0, 0, 1) kX7_takeNode := by unfold OKM; decide +kernel
set_option maxRecDepth 100000 in
theorem okX7_giveNode : OKM (yX7_giveNode, cX7_giveNode, 2, none, 7, 2, 0, 0, 1) kX7_giveNode := by unfold OKM; decide +kernel
set_option maxRecDepth 100000 in
theorem okX7_find_1 : OKM (yX7_find, cX7_find, 7, (some .boolean), 7, 3, 1, 26, 1) (kX7_find.take 60) := by unfold OKM; decide +kernel
set_option maxRecDepth 100000 in
theorem okX7_find_2 : OKM (yX7_find, cX7_find, 7, (some .boolean), 7, 3, 1, 26, 1) ((kX7_find.drop 60).take 60) := by unfold OKM; decide +kernel
set_option maxRecDepth 100000 in
theorem okX7_find : OKM (yX7_find, cX7_find, 7, (some .boolean), 7, 3, 1, 26, 1) kX7_find := by
  have h : kX7_find = kX7_find.take 60 ++ ((kX7_find.drop 60).take 60) := rfl
  unfold OKM
  rw [h]
  exact List.forall_mem_append.mpr ⟨okX7_find_1, okX7_find_2⟩
set_option maxRecDepth 100000 in
theorem okX7_goToGreatestBelow_1 : OKM (yX7_goToGreatestBelow, cX7_goToGreatestBelow, 3, none, 7, 1, 1, 21, 1) (kX7_goToGreatestBelow.take 60) := by unfold OKM; decide +kernel
set_option maxRecDepth 100000 in
theorem okX7_goToGreatestBelow_2 : OKM (yX7_goToGreatestBelow, cX7_goToGreatestBelow, 3, none, 7, 1, 1, 21, 1) ((kX7_goToGreatestBelow.drop 60).take 60) := by unfold OKM; decide +kernel
set_option maxRecDepth 100000 in
theorem okX7_goToGreatestBelow : OKM (yX7_goToGreatestBelow, cX7_goToGreatestBelow, 3, none, 7, 1, 1, 21, 1) kX7_goToGreatestBelow := by
  have h : kX7_goToGreatestBelow = kX7_goToGreatestBelow.take 60 ++ ((kX7_goToGreatestBelow.drop 60).take 60) := rfl
  unfold OKM
  rw [h]
  exact List.forall_mem_append.mpr ⟨okX7_goToGreatestBelow_1, okX7_goToGreatestBelow_2⟩
set_option maxRecDepth 100000 in
theorem okX7_putInto : OKM (yX7_putInto, cX7_putInto, 8, none, 7, 5, 1, 18, 1) kX7_putInto := by unfold OKM; decide +kernel
set_option maxRecDepth 100000 in
theorem okX7_takeOut : OKM (yX7_takeOut, cX7_takeOut, 6, none, 7, 3, 1, 18, 1) kX7_takeOut := by unfold OKM; decide +kernel
set_option maxRecDepth 100000 in
theorem okX7_splitUpwards_1 : OKM (yX7_splitUpwards, cX7_splitUpwards, 5, none, 7, 1, 2, 45, 1) (kX7_splitUpwards.take 60) := by unfold OKM; decide +kernel
set_option maxRecDepth 100000 in
theorem okX7_splitUpwards_2 : OKM (yX7_splitUpwards, cX7_splitUpwards, 5, none, 7, 1, 2, 45, 1) ((kX7_splitUpwards.drop 60).take 60) := by unfold OKM; decide +kernel
set_option maxRecDepth 100000 in
theorem okX7_splitUpwards : OKM (yX7_splitUpwards, cX7_splitUpwards, 5, none, 7, 1, 2, 45, 1) kX7_splitUpwards := by
  have h : kX7_splitUpwards = kX7_splitUpwards.take 60 ++ ((kX7_splitUpwards.drop 60).take 60) := rfl
  unfold OKM
  rw [h]
  exact List.forall_mem_append.mpr ⟨okX7_splitUpwards_1, okX7_splitUpwards_2⟩
set_option maxRecDepth 100000 in
theorem okX7_halve : OKM (yX7_halve, cX7_halve, 3, none, 7, 3, 1, 18, 1) kX7_halve := by unfold OKM; decide +kernel
set_option maxRecDepth 100000 in
theorem okX7_mendUpwards_1 : OKM (yX7_mendUpwards, cX7_mendUpwards, 5, none, 7, 1, 2, 46, 1) (kX7_mendUpwards.take 60) := by unfold OKM; decide +kernel
set_option maxRecDepth 100000 in
theorem okX7_mendUpwards_2 : OKM (yX7_mendUpwards, cX7_mendUpwards, 5, none, 7, 1, 2, 46, 1) ((kX7_mendUpwards.drop 60).take 60) := by unfold OKM; decide +kernel
set_option maxRecDepth 100000 in
theorem okX7_mendUpwards : OKM (yX7_mendUpwards, cX7_mendUpwards, 5, none, 7, 1, 2, 46, 1) kX7_mendUpwards := by
  have h : kX7_mendUpwards = kX7_mendUpwards.take 60 ++ ((kX7_mendUpwards.drop 60).take 60) := rfl
  unfold OKM
  rw [h]
  exact List.forall_mem_append.mpr ⟨okX7_mendUpwards_1, okX7_mendUpwards_2⟩
set_option maxRecDepth 100000 in
theorem okX7_takeFromLeft_1 : OKM (yX7_takeFromLeft, cX7_takeFromLeft, 6, none, 7, 3, 1, 18, 1) (kX7_takeFromLeft.take 60) := by unfold OKM; decide +kernel
set_option maxRecDepth 100000 in
theorem okX7_takeFromLeft_2 : OKM (yX7_takeFromLeft, cX7_takeFromLeft, 6, none, 7, 3, 1, 18, 1) ((kX7_takeFromLeft.drop 60).take 60) := by unfold OKM; decide +kernel
set_option maxRecDepth 100000 in
theorem okX7_takeFromLeft_3 : OKM (yX7_takeFromLeft, cX7_takeFromLeft, 6, none, 7, 3, 1, 18, 1) ((kX7_takeFromLeft.drop 120).take 60) := by unfold OKM; decide +kernel
set_option maxRecDepth 100000 in
theorem okX7_takeFromLeft : OKM (yX7_takeFromLeft, cX7_takeFromLeft, 6, none, 7, 3, 1, 18, 1) kX7_takeFromLeft := by
  have h : kX7_takeFromLeft = kX7_takeFromLeft.take 60 ++ ((kX7_takeFromLeft.drop 60).take 60 ++ ((kX7_takeFromLeft.drop 120).take 60)) := rfl
  unfold OKM
  rw [h]
  exact List.forall_mem_append.mpr ⟨okX7_takeFromLeft_1, List.forall_mem_append.mpr ⟨okX7_takeFromLeft_2, okX7_takeFromLeft_3⟩⟩
set_option maxRecDepth 100000 in
theorem okX7_takeFromRight_1 : OKM (yX7_takeFromRight, cX7_takeFromRight, 6, none, 7, 3, 1, 18, 1) (kX7_takeFromRight.take 60) := by unfold OKM; decide +kernel
set_option maxRecDepth 100000 in
theorem okX7_takeFromRight_2 : OKM (yX7_takeFromRight, cX7_takeFromRight, 6, none, 7, 3, 1, 18, 1) ((kX7_takeFromRight.drop 60).take 60) := by unfold OKM; decide +kernel
set_option maxRecDepth 100000 in
theorem okX7_takeFromRight_3 : OKM (yX7_takeFromRight, cX7_takeFromRight, 6, none, 7, 3, 1, 18, 1) ((kX7_takeFromRight.drop 120).take 60) := by unfold OKM; decide +kernel
set_option maxRecDepth 100000 in
theorem okX7_takeFromRight : OKM (yX7_takeFromRight, cX7_takeFromRight, 6, none, 7, 3, 1, 18, 1) kX7_takeFromRight := by
  have h : kX7_takeFromRight = kX7_takeFromRight.take 60 ++ ((kX7_takeFromRight.drop 60).take 60 ++ ((kX7_takeFromRight.drop 120).take 60)) := rfl
  unfold OKM
  rw [h]
  exact List.forall_mem_append.mpr ⟨okX7_takeFromRight_1, List.forall_mem_append.mpr ⟨okX7_takeFromRight_2, okX7_takeFromRight_3⟩⟩
set_option maxRecDepth 100000 in
theorem okX7_joinAround_1 : OKM (yX7_joinAround, cX7_joinAround, 6, none, 7, 3, 1, 21, 1) (kX7_joinAround.take 60) := by unfold OKM; decide +kernel
set_option maxRecDepth 100000 in
theorem okX7_joinAround_2 : OKM (yX7_joinAround, cX7_joinAround, 6, none, 7, 3, 1, 21, 1) ((kX7_joinAround.drop 60).take 60) := by unfold OKM; decide +kernel
set_option maxRecDepth 100000 in
theorem okX7_joinAround : OKM (yX7_joinAround, cX7_joinAround, 6, none, 7, 3, 1, 21, 1) kX7_joinAround := by
  have h : kX7_joinAround = kX7_joinAround.take 60 ++ ((kX7_joinAround.drop 60).take 60) := rfl
  unfold OKM
  rw [h]
  exact List.forall_mem_append.mpr ⟨okX7_joinAround_1, okX7_joinAround_2⟩
set_option maxRecDepth 100000 in
theorem okX7_walkAll_1 : OKM (yX7_walkAll, cX7_walkAll, 5, none, 7, 1, 1, 22, 1) (kX7_walkAll.take 60) := by unfold OKM; decide +kernel
set_option maxRecDepth 100000 in
theorem okX7_walkAll_2 : OKM (yX7_walkAll, cX7_walkAll, 5, none, 7, 1, 1, 22, 1) ((kX7_walkAll.drop 60).take 60) := by unfold OKM; decide +kernel
set_option maxRecDepth 100000 in
theorem okX7_walkAll : OKM (yX7_walkAll, cX7_walkAll, 5, none, 7, 1, 1, 22, 1) kX7_walkAll := by
  have h : kX7_walkAll = kX7_walkAll.take 60 ++ ((kX7_walkAll.drop 60).take 60) := rfl
  unfold OKM
  rw [h]
  exact List.forall_mem_append.mpr ⟨okX7_walkAll_1, okX7_walkAll_2⟩
set_option maxRecDepth 100000 in
theorem okX7_noteWalked : OKM (yX7_noteWalked, cX7_noteWalked, 3, none, 7, 3, 0, 0, 1) kX7_noteWalked := by unfold OKM; decide +kernel
set_option maxRecDepth 100000 in
theorem okX7_faults : OKM (yX7_faults, cX7_faults, 3, (some .int), 7, 1, 2, 48, 1) kX7_faults := by unfold OKM; decide +kernel
set_option maxRecDepth 100000 in
theorem okX7_nodeFaults_1 : OKM (yX7_nodeFaults, cX7_nodeFaults, 8, (some .int), 7, 1, 1, 21, 1) (kX7_nodeFaults.take 60) := by unfold OKM; decide +kernel
set_option maxRecDepth 100000 in
theorem okX7_nodeFaults_2 : OKM (yX7_nodeFaults, cX7_nodeFaults, 8, (some .int), 7, 1, 1, 21, 1) ((kX7_nodeFaults.drop 60).take 60) := by unfold OKM; decide +kernel
set_option maxRecDepth 100000 in
theorem okX7_nodeFaults : OKM (yX7_nodeFaults, cX7_nodeFaults, 8, (some .int), 7, 1, 1, 21, 1) kX7_nodeFaults := by
  have h : kX7_nodeFaults = kX7_nodeFaults.take 60 ++ ((kX7_nodeFaults.drop 60).take 60) := rfl
  unfold OKM
  rw [h]
  exact List.forall_mem_append.mpr ⟨okX7_nodeFaults_1, okX7_nodeFaults_2⟩
set_option maxRecDepth 100000 in
theorem okX8_init_1 : OKM (yX8_init, cX8_init, 2, none, 8, 1, 4, 83, 2) (kX8_init.take 60) := by unfold OKM; decide +kernel
set_option maxRecDepth 100000 in
theorem okX8_init_2 : OKM (yX8_init, cX8_init, 2, none, 8, 1, 4, 83, 2) ((kX8_init.drop 60).take 60) := by unfold OKM; decide +kernel
set_option maxRecDepth 100000 in
theorem okX8_init : OKM (yX8_init, cX8_init, 2, none, 8, 1, 4, 83, 2) kX8_init := by
  have h : kX8_init = kX8_init.take 60 ++ ((kX8_init.drop 60).take 60) := rfl
  unfold OKM
  rw [h]
  exact List.forall_mem_append.mpr ⟨okX8_init_1, okX8_init_2⟩
set_option maxRecDepth 100000 in
theorem okX8_begin : OKM (yX8_begin, cX8_begin, 2, (some .int), 8, 1, 0, 0, 1) kX8_begin := by unfold OKM; decide +kernel
set_option maxRecDepth 100000 in
theorem okX8_insert : OKM (yX8_insert, cX8_insert, 7, (some .int), 8, 6, 7, 161, 1) kX8_insert := by unfold OKM; decide +kernel
set_option maxRecDepth 100000 in
theorem okX8_update_1 : OKM (yX8_update, cX8_update, 5, (some .int), 8, 5, 7, 161, 1) (kX8_update.take 60) := by unfold OKM; decide +kernel
set_option maxRecDepth 100000 in
theorem okX8_update_2 : OKM (yX8_update, cX8_update, 5, (some .int), 8, 5, 7, 161, 1) ((kX8_update.drop 60).take 60) := by unfold OKM; decide +kernel
set_option maxRecDepth 100000 in
theorem okX8_update : OKM (yX8_update, cX8_update, 5, (some .int), 8, 5, 7, 161, 1) kX8_update := by
  have h : kX8_update = kX8_update.take 60 ++ ((kX8_update.drop 60).take 60) := rfl
  unfold OKM
  rw [h]
  exact List.forall_mem_append.mpr ⟨okX8_update_1, okX8_update_2⟩
set_option maxRecDepth 100000 in
theorem okX8_remove : OKM (yX8_remove, cX8_remove, 3, (some .int), 8, 3, 7, 161, 1) kX8_remove := by unfold OKM; decide +kernel
set_option maxRecDepth 100000 in
theorem okX8_records : OKM (yX8_records, cX8_records, 2, (some .int), 8, 2, 1, 21, 1) kX8_records := by unfold OKM; decide +kernel
set_option maxRecDepth 100000 in
theorem okX8_undo : OKM (yX8_undo, cX8_undo, 3, (some .int), 8, 3, 7, 165, 1) kX8_undo := by unfold OKM; decide +kernel
set_option maxRecDepth 100000 in
theorem okX8_commit : OKM (yX8_commit, cX8_commit, 4, (some .int), 8, 2, 6, 139, 1) kX8_commit := by unfold OKM; decide +kernel
set_option maxRecDepth 100000 in
theorem okX8_abort : OKM (yX8_abort, cX8_abort, 3, (some .int), 8, 2, 7, 165, 1) kX8_abort := by unfold OKM; decide +kernel
set_option maxRecDepth 100000 in
theorem okX8_isActive : OKM (yX8_isActive, cX8_isActive, 2, (some .boolean), 8, 2, 0, 0, 1) kX8_isActive := by unfold OKM; decide +kernel
set_option maxRecDepth 100000 in
theorem okX8_isPlace : OKM (yX8_isPlace, cX8_isPlace, 1, (some .boolean), 8, 1, 0, 0, 0) kX8_isPlace := by unfold OKM; decide +kernel
set_option maxRecDepth 100000 in
theorem okX8_isField : OKM (yX8_isField, cX8_isField, 1, (some .boolean), 8, 1, 0, 0, 0) kX8_isField := by unfold OKM; decide +kernel
set_option maxRecDepth 100000 in
theorem okX8_isLocked : OKM (yX8_isLocked, cX8_isLocked, 3, (some .boolean), 8, 3, 1, 20, 1) kX8_isLocked := by unfold OKM; decide +kernel
set_option maxRecDepth 100000 in
theorem okX8_hasRow : OKM (yX8_hasRow, cX8_hasRow, 2, (some .boolean), 8, 2, 1, 21, 1) kX8_hasRow := by unfold OKM; decide +kernel
set_option maxRecDepth 100000 in
theorem okX8_leastFreePlace : OKM (yX8_leastFreePlace, cX8_leastFreePlace, 2, (some .int), 8, 1, 2, 42, 1) kX8_leastFreePlace := by unfold OKM; decide +kernel
set_option maxRecDepth 100000 in
theorem okX8_write : OKM (yX8_write, cX8_write, 3, none, 8, 3, 6, 139, 1) kX8_write := by unfold OKM; decide +kernel
set_option maxRecDepth 100000 in
theorem okX8_undoTo : OKM (yX8_undoTo, cX8_undoTo, 7, (some .int), 8, 3, 6, 139, 1) kX8_undoTo := by unfold OKM; decide +kernel
set_option maxRecDepth 100000 in
theorem okX8_tellIndexes : OKM (yX8_tellIndexes, cX8_tellIndexes, 3, none, 8, 2, 5, 117, 1) kX8_tellIndexes := by unfold OKM; decide +kernel
set_option maxRecDepth 100000 in
theorem okX8_wouldClash : OKM (yX8_wouldClash, cX8_wouldClash, 3, (some .boolean), 8, 3, 5, 118, 1) kX8_wouldClash := by unfold OKM; decide +kernel
set_option maxRecDepth 100000 in
theorem okX8_undoWouldClash : OKM (yX8_undoWouldClash, cX8_undoWouldClash, 5, (some .boolean), 8, 3, 5, 118, 1) kX8_undoWouldClash := by unfold OKM; decide +kernel
set_option maxRecDepth 100000 in
theorem okX8_hasGuard : OKM (yX8_hasGuard, cX8_hasGuard, 2, (some .boolean), 8, 1, 1, 20, 1) kX8_hasGuard := by unfold OKM; decide +kernel
set_option maxRecDepth 100000 in
theorem okX8_clashesIn : OKM (yX8_clashesIn, cX8_clashesIn, 4, (some .boolean), 8, 3, 4, 95, 1) kX8_clashesIn := by unfold OKM; decide +kernel
set_option maxRecDepth 100000 in
theorem okX8_index : OKM (yX8_index, cX8_index, 6, (some .int), 8, 5, 4, 87, 1) kX8_index := by unfold OKM; decide +kernel
set_option maxRecDepth 100000 in
theorem okX8_drop : OKM (yX8_drop, cX8_drop, 2, (some .int), 8, 2, 1, 21, 1) kX8_drop := by unfold OKM; decide +kernel
set_option maxRecDepth 100000 in
theorem okX8_step : OKM (yX8_step, cX8_step, 4, (some .int), 8, 3, 6, 141, 1) kX8_step := by unfold OKM; decide +kernel
set_option maxRecDepth 100000 in
theorem okX8_info_1 : OKM (yX8_info, cX8_info, 4, (some .int), 8, 3, 2, 43, 1) (kX8_info.take 60) := by unfold OKM; decide +kernel
set_option maxRecDepth 100000 in
theorem okX8_info_2 : OKM (yX8_info, cX8_info, 4, (some .int), 8, 3, 2, 43, 1) ((kX8_info.drop 60).take 60) := by unfold OKM; decide +kernel
set_option maxRecDepth 100000 in
theorem okX8_info : OKM (yX8_info, cX8_info, 4, (some .int), 8, 3, 2, 43, 1) kX8_info := by
  have h : kX8_info = kX8_info.take 60 ++ ((kX8_info.drop 60).take 60) := rfl
  unfold OKM
  rw [h]
  exact List.forall_mem_append.mpr ⟨okX8_info_1, okX8_info_2⟩
set_option maxRecDepth 100000 in
theorem okX8_entry : OKM (yX8_entry, cX8_entry, 5, (some .int), 8, 4, 3, 68, 1) kX8_entry := by unfold OKM; decide +kernel
set_option maxRecDepth 100000 in
theorem okX8_isIndex : OKM (yX8_isIndex, cX8_isIndex, 2, (some .boolean), 8, 2, 0, 0, 1) kX8_isIndex := by unfold OKM; decide +kernel
set_option maxRecDepth 100000 in
theorem okX8_isKey : OKM (yX8_isKey, cX8_isKey, 3, (some .boolean), 8, 3, 1, 20, 0) kX8_isKey := by unfold OKM; decide +kernel
set_option maxRecDepth 100000 in
theorem okX8_where : OKM (yX8_where, cX8_where, 4, (some .int), 8, 4, 1, 20, 1) kX8_where := by unfold OKM; decide +kernel
set_option maxRecDepth 100000 in
theorem okX8_ask_1 : OKM (yX8_ask, cX8_ask, 3, (some .int), 8, 3, 7, 164, 1) (kX8_ask.take 60) := by unfold OKM; decide +kernel
set_option maxRecDepth 100000 in
theorem okX8_ask_2 : OKM (yX8_ask, cX8_ask, 3, (some .int), 8, 3, 7, 164, 1) ((kX8_ask.drop 60).take 60) := by unfold OKM; decide +kernel
set_option maxRecDepth 100000 in
theorem okX8_ask : OKM (yX8_ask, cX8_ask, 3, (some .int), 8, 3, 7, 164, 1) kX8_ask := by
  have h : kX8_ask = kX8_ask.take 60 ++ ((kX8_ask.drop 60).take 60) := rfl
  unfold OKM
  rw [h]
  exact List.forall_mem_append.mpr ⟨okX8_ask_1, okX8_ask_2⟩
set_option maxRecDepth 100000 in
theorem okX8_answer : OKM (yX8_answer, cX8_answer, 2, (some .int), 8, 2, 0, 0, 1) kX8_answer := by unfold OKM; decide +kernel
set_option maxRecDepth 100000 in
theorem okX8_asked : OKM (yX8_asked, cX8_asked, 2, (some .int), 8, 2, 0, 0, 1) kX8_asked := by unfold OKM; decide +kernel
set_option maxRecDepth 100000 in
theorem okX8_cost : OKM (yX8_cost, cX8_cost, 2, (some .int), 8, 2, 6, 141, 1) kX8_cost := by unfold OKM; decide +kernel
set_option maxRecDepth 100000 in
theorem okX8_isReady : OKM (yX8_isReady, cX8_isReady, 2, (some .boolean), 8, 2, 1, 21, 1) kX8_isReady := by unfold OKM; decide +kernel
set_option maxRecDepth 100000 in
theorem okX8_cheapestWay : OKM (yX8_cheapestWay, cX8_cheapestWay, 4, (some .int), 8, 1, 6, 141, 1) kX8_cheapestWay := by unfold OKM; decide +kernel
set_option maxRecDepth 100000 in
theorem okX8_costOf : OKM (yX8_costOf, cX8_costOf, 3, (some .int), 8, 2, 5, 119, 1) kX8_costOf := by unfold OKM; decide +kernel
set_option maxRecDepth 100000 in
theorem okX8_pagesInUse : OKM (yX8_pagesInUse, cX8_pagesInUse, 5, (some .int), 8, 1, 2, 42, 1) kX8_pagesInUse := by unfold OKM; decide +kernel
set_option maxRecDepth 100000 in
theorem okX8_answerByScan : OKM (yX8_answerByScan, cX8_answerByScan, 3, none, 8, 2, 2, 46, 1) kX8_answerByScan := by unfold OKM; decide +kernel
set_option maxRecDepth 100000 in
theorem okX8_answerByIndex : OKM (yX8_answerByIndex, cX8_answerByIndex, 6, none, 8, 3, 4, 95, 1) kX8_answerByIndex := by unfold OKM; decide +kernel
set_option maxRecDepth 100000 in
theorem okX8_fits : OKM (yX8_fits, cX8_fits, 5, (some .boolean), 8, 3, 1, 22, 1) kX8_fits := by unfold OKM; decide +kernel
set_option maxRecDepth 100000 in
theorem okX8_tell : OKM (yX8_tell, cX8_tell, 2, none, 8, 2, 0, 0, 1) kX8_tell := by unfold OKM; decide +kernel
set_option maxRecDepth 100000 in
theorem okX8_sees : OKM (yX8_sees, cX8_sees, 3, (some .int), 8, 3, 1, 22, 1) kX8_sees := by unfold OKM; decide +kernel
set_option maxRecDepth 100000 in
theorem okX8_field : OKM (yX8_field, cX8_field, 5, (some .int), 8, 4, 1, 22, 1) kX8_field := by unfold OKM; decide +kernel
set_option maxRecDepth 100000 in
theorem okX8_writer : OKM (yX8_writer, cX8_writer, 2, (some .int), 8, 2, 1, 20, 1) kX8_writer := by unfold OKM; decide +kernel
set_option maxRecDepth 100000 in
theorem okX8_count : OKM (yX8_count, cX8_count, 2, (some .int), 8, 2, 3, 64, 1) kX8_count := by unfold OKM; decide +kernel
set_option maxRecDepth 100000 in
theorem okX8_audit : OKM (yX8_audit, cX8_audit, 3, (some .int), 8, 1, 5, 122, 1) kX8_audit := by unfold OKM; decide +kernel
set_option maxRecDepth 100000 in
theorem okX8_activeTransactions : OKM (yX8_activeTransactions, cX8_activeTransactions, 3, (some .int), 8, 1, 0, 0, 1) kX8_activeTransactions := by unfold OKM; decide +kernel
set_option maxRecDepth 100000 in
theorem okX8_indexesFrom : OKM (yX8_indexesFrom, cX8_indexesFrom, 4, (some .int), 8, 2, 0, 0, 1) kX8_indexesFrom := by unfold OKM; decide +kernel
set_option maxRecDepth 100000 in
theorem okX9_init_1 : OKM (yX9_init, cX9_init, 2, none, 9, 1, 1, 12, 2) (kX9_init.take 60) := by unfold OKM; decide +kernel
set_option maxRecDepth 100000 in
theorem okX9_init_2 : OKM (yX9_init, cX9_init, 2, none, 9, 1, 1, 12, 2) ((kX9_init.drop 60).take 60) := by unfold OKM; decide +kernel
set_option maxRecDepth 100000 in
theorem okX9_init_3 : OKM (yX9_init, cX9_init, 2, none, 9, 1, 1, 12, 2) ((kX9_init.drop 120).take 60) := by unfold OKM; decide +kernel
set_option maxRecDepth 100000 in
theorem okX9_init_4 : OKM (yX9_init, cX9_init, 2, none, 9, 1, 1, 12, 2) ((kX9_init.drop 180).take 60) := by unfold OKM; decide +kernel
set_option maxRecDepth 100000 in
theorem okX9_init : OKM (yX9_init, cX9_init, 2, none, 9, 1, 1, 12, 2) kX9_init := by
  have h : kX9_init = kX9_init.take 60 ++ ((kX9_init.drop 60).take 60 ++ ((kX9_init.drop 120).take 60 ++ ((kX9_init.drop 180).take 60))) := rfl
  unfold OKM
  rw [h]
  exact List.forall_mem_append.mpr ⟨okX9_init_1, List.forall_mem_append.mpr ⟨okX9_init_2, List.forall_mem_append.mpr ⟨okX9_init_3, okX9_init_4⟩⟩⟩
set_option maxRecDepth 100000 in
theorem okX9_in : OKM (yX9_in, cX9_in, 3, (some .boolean), 9, 3, 0, 0, 0) kX9_in := by unfold OKM; decide +kernel
set_option maxRecDepth 100000 in
theorem okX9_isActive : OKM (yX9_isActive, cX9_isActive, 2, (some .boolean), 9, 2, 1, 22, 1) kX9_isActive := by unfold OKM; decide +kernel
set_option maxRecDepth 100000 in
theorem okX9_isIndex : OKM (yX9_isIndex, cX9_isIndex, 2, (some .boolean), 9, 2, 1, 22, 1) kX9_isIndex := by unfold OKM; decide +kernel
set_option maxRecDepth 100000 in
theorem okX9_isReady : OKM (yX9_isReady, cX9_isReady, 2, (some .boolean), 9, 2, 2, 43, 1) kX9_isReady := by unfold OKM; decide +kernel
set_option maxRecDepth 100000 in
theorem okX9_isPlace : OKM (yX9_isPlace, cX9_isPlace, 1, (some .boolean), 9, 1, 1, 22, 0) kX9_isPlace := by unfold OKM; decide +kernel
set_option maxRecDepth 100000 in
theorem okX9_isFree : OKM (yX9_isFree, cX9_isFree, 2, (some .boolean), 9, 2, 0, 0, 1) kX9_isFree := by unfold OKM; decide +kernel
set_option maxRecDepth 100000 in
theorem okX9_entryOf : OKM (yX9_entryOf, cX9_entryOf, 6, none, 9, 5, 0, 0, 1) kX9_entryOf := by unfold OKM; decide +kernel
set_option maxRecDepth 100000 in
theorem okX9_compare : OKM (yX9_compare, cX9_compare, 3, (some .int), 9, 2, 0, 0, 1) kX9_compare := by unfold OKM; decide +kernel
set_option maxRecDepth 100000 in
theorem okX9_copySlot : OKM (yX9_copySlot, cX9_copySlot, 4, none, 9, 3, 0, 0, 1) kX9_copySlot := by unfold OKM; decide +kernel
set_option maxRecDepth 100000 in
theorem okX9_fillSlot : OKM (yX9_fillSlot, cX9_fillSlot, 3, none, 9, 2, 0, 0, 1) kX9_fillSlot := by unfold OKM; decide +kernel
set_option maxRecDepth 100000 in
theorem okX9_node : OKM (yX9_node, cX9_node, 4, (some .int), 9, 2, 0, 0, 1) kX9_node := by unfold OKM; decide +kernel
set_option maxRecDepth 100000 in
theorem okX9_emptyTree : OKM (yX9_emptyTree, cX9_emptyTree, 3, none, 9, 2, 1, 23, 1) kX9_emptyTree := by unfold OKM; decide +kernel
set_option maxRecDepth 100000 in
theorem okX9_isLowest : OKM (yX9_isLowest, cX9_isLowest, 2, (some .boolean), 9, 2, 0, 0, 1) kX9_isLowest := by unfold OKM; decide +kernel
set_option maxRecDepth 100000 in
theorem okX9_slotFor : OKM (yX9_slotFor, cX9_slotFor, 3, (some .int), 9, 2, 1, 22, 1) kX9_slotFor := by unfold OKM; decide +kernel
set_option maxRecDepth 100000 in
theorem okX9_find_1 : OKM (yX9_find, cX9_find, 4, (some .boolean), 9, 2, 2, 44, 1) (kX9_find.take 60) := by unfold OKM; decide +kernel
set_option maxRecDepth 100000 in
theorem okX9_find_2 : OKM (yX9_find, cX9_find, 4, (some .boolean), 9, 2, 2, 44, 1) ((kX9_find.drop 60).take 60) := by unfold OKM; decide +kernel
set_option maxRecDepth 100000 in
theorem okX9_find : OKM (yX9_find, cX9_find, 4, (some .boolean), 9, 2, 2, 44, 1) kX9_find := by
  have h : kX9_find = kX9_find.take 60 ++ ((kX9_find.drop 60).take 60) := rfl
  unfold OKM
  rw [h]
  exact List.forall_mem_append.mpr ⟨okX9_find_1, okX9_find_2⟩
set_option maxRecDepth 100000 in
theorem okX9_addAt_1 : OKM (yX9_addAt, cX9_addAt, 5, none, 9, 4, 1, 23, 1) (kX9_addAt.take 60) := by unfold OKM; decide +kernel
set_option maxRecDepth 100000 in
theorem okX9_addAt_2 : OKM (yX9_addAt, cX9_addAt, 5, none, 9, 4, 1, 23, 1) ((kX9_addAt.drop 60).take 60) := by unfold OKM; decide +kernel
set_option maxRecDepth 100000 in
theorem okX9_addAt : OKM (yX9_addAt, cX9_addAt, 5, none, 9, 4, 1, 23, 1) kX9_addAt := by
  have h : kX9_addAt = kX9_addAt.take 60 ++ ((kX9_addAt.drop 60).take 60) := rfl
  unfold OKM
  rw [h]
  exact List.forall_mem_append.mpr ⟨okX9_addAt_1, okX9_addAt_2⟩
set_option maxRecDepth 100000 in
theorem okX9_takeSlot : OKM (yX9_takeSlot, cX9_takeSlot, 3, none, 9, 2, 0, 0, 1) kX9_takeSlot := by unfold OKM; decide +kernel
set_option maxRecDepth 100000 in
theorem okX9_comesToTree_1 : OKM (yX9_comesToTree, cX9_comesToTree, 5, none, 9, 2, 3, 67, 1) (kX9_comesToTree.take 60) := by unfold OKM; decide +kernel
set_option maxRecDepth 100000 in
theorem okX9_comesToTree_2 : OKM (yX9_comesToTree, cX9_comesToTree, 5, none, 9, 2, 3, 67, 1) ((kX9_comesToTree.drop 60).take 60) := by unfold OKM; decide +kernel
set_option maxRecDepth 100000 in
theorem okX9_comesToTree_3 : OKM (yX9_comesToTree, cX9_comesToTree, 5, none, 9, 2, 3, 67, 1) ((kX9_comesToTree.drop 120).take 60) := by unfold OKM; decide +kernel
set_option maxRecDepth 100000 in
theorem okX9_comesToTree : OKM (yX9_comesToTree, cX9_comesToTree, 5, none, 9, 2, 3, 67, 1) kX9_comesToTree := by
  have h : kX9_comesToTree = kX9_comesToTree.take 60 ++ ((kX9_comesToTree.drop 60).take 60 ++ ((kX9_comesToTree.drop 120).take 60)) := rfl
  unfold OKM
  rw [h]
  exact List.forall_mem_append.mpr ⟨okX9_comesToTree_1, List.forall_mem_append.mpr ⟨okX9_comesToTree_2, okX9_comesToTree_3⟩⟩
set_option maxRecDepth 100000 in
theorem okX9_takeOut_1 : OKM (yX9_takeOut, cX9_takeOut, 5, none, 9, 4, 1, 23, 1) (kX9_takeOut.take 60) := by unfold OKM; decide +kernel
set_option maxRecDepth 100000 in
theorem okX9_takeOut_2 : OKM (yX9_takeOut, cX9_takeOut, 5, none, 9, 4, 1, 23, 1) ((kX9_takeOut.drop 60).take 60) := by unfold OKM; decide +kernel
set_option maxRecDepth 100000 in
theorem okX9_takeOut : OKM (yX9_takeOut, cX9_takeOut, 5, none, 9, 4, 1, 23, 1) kX9_takeOut := by
  have h : kX9_takeOut = kX9_takeOut.take 60 ++ ((kX9_takeOut.drop 60).take 60) := rfl
  unfold OKM
  rw [h]
  exact List.forall_mem_append.mpr ⟨okX9_takeOut_1, okX9_takeOut_2⟩
set_option maxRecDepth 100000 in
theorem okX9_goesFromTree_1 : OKM (yX9_goesFromTree, cX9_goesFromTree, 6, none, 9, 2, 4, 98, 1) (kX9_goesFromTree.take 60) := by unfold OKM; decide +kernel
set_option maxRecDepth 100000 in
theorem okX9_goesFromTree_2 : OKM (yX9_goesFromTree, cX9_goesFromTree, 6, none, 9, 2, 4, 98, 1) ((kX9_goesFromTree.drop 60).take 60) := by unfold OKM; decide +kernel
set_option maxRecDepth 100000 in
theorem okX9_goesFromTree_3 : OKM (yX9_goesFromTree, cX9_goesFromTree, 6, none, 9, 2, 4, 98, 1) ((kX9_goesFromTree.drop 120).take 60) := by unfold OKM; decide +kernel
set_option maxRecDepth 100000 in
theorem okX9_goesFromTree : OKM (yX9_goesFromTree, cX9_goesFromTree, 6, none, 9, 2, 4, 98, 1) kX9_goesFromTree := by
  have h : kX9_goesFromTree = kX9_goesFromTree.take 60 ++ ((kX9_goesFromTree.drop 60).take 60 ++ ((kX9_goesFromTree.drop 120).take 60)) := rfl
  unfold OKM
  rw [h]
  exact List.forall_mem_append.mpr ⟨okX9_goesFromTree_1, List.forall_mem_append.mpr ⟨okX9_goesFromTree_2, okX9_goesFromTree_3⟩⟩
set_option maxRecDepth 100000 in
theorem okX9_settle_1 : OKM (yX9_settle, cX9_settle, 6, none, 9, 1, 3, 73, 1) (kX9_settle.take 60) := by unfold OKM; decide +kernel
set_option maxRecDepth 100000 in
theorem okX9_settle_2 : OKM (yX9_settle, cX9_settle, 6, none, 9, 1, 3, 73, 1) ((kX9_settle.drop 60).take 60) := by unfold OKM; decide +kernel
set_option maxRecDepth 100000 in
theorem okX9_settle_3 : OKM (yX9_settle, cX9_settle, 6, none, 9, 1, 3, 73, 1) ((kX9_settle.drop 120).take 60) := by unfold OKM; decide +kernel
set_option maxRecDepth 100000 in
theorem okX9_settle_4 : OKM (yX9_settle, cX9_settle, 6, none, 9, 1, 3, 73, 1) ((kX9_settle.drop 180).take 60) := by unfold OKM; decide +kernel
set_option maxRecDepth 100000 in
theorem okX9_settle_5 : OKM (yX9_settle, cX9_settle, 6, none, 9, 1, 3, 73, 1) ((kX9_settle.drop 240).take 60) := by unfold OKM; decide +kernel
set_option maxRecDepth 100000 in
theorem okX9_settle : OKM (yX9_settle, cX9_settle, 6, none, 9, 1, 3, 73, 1) kX9_settle := by
  have h : kX9_settle = kX9_settle.take 60 ++ ((kX9_settle.drop 60).take 60 ++ ((kX9_settle.drop 120).take 60 ++ ((kX9_settle.drop 180).take 60 ++ ((kX9_settle.drop 240).take 60)))) := rfl
  unfold OKM
  rw [h]
  exact List.forall_mem_append.mpr ⟨okX9_settle_1, List.forall_mem_append.mpr ⟨okX9_settle_2, List.forall_mem_append.mpr ⟨okX9_settle_3, List.forall_mem_append.mpr ⟨okX9_settle_4, okX9_settle_5⟩⟩⟩⟩
set_option maxRecDepth 100000 in
theorem okX9_join_1 : OKM (yX9_join, cX9_join, 7, none, 9, 5, 2, 47, 1) (kX9_join.take 60) := by unfold OKM; decide +kernel
set_option maxRecDepth 100000 in
theorem okX9_join_2 : OKM (yX9_join, cX9_join, 7, none, 9, 5, 2, 47, 1) ((kX9_join.drop 60).take 60) := by unfold OKM; decide +kernel
set_option maxRecDepth 100000 in
theorem okX9_join : OKM (yX9_join, cX9_join, 7, none, 9, 5, 2, 47, 1) kX9_join := by
  have h : kX9_join = kX9_join.take 60 ++ ((kX9_join.drop 60).take 60) := rfl
  unfold OKM
  rw [h]
  exact List.forall_mem_append.mpr ⟨okX9_join_1, okX9_join_2⟩
set_option maxRecDepth 100000 in
theorem okX9_goThrough_1 : OKM (yX9_goThrough, cX9_goThrough, 4, none, 9, 2, 1, 21, 1) (kX9_goThrough.take 60) := by unfold OKM; decide +kernel
set_option maxRecDepth 100000 in
theorem okX9_goThrough_2 : OKM (yX9_goThrough, cX9_goThrough, 4, none, 9, 2, 1, 21, 1) ((kX9_goThrough.drop 60).take 60) := by unfold OKM; decide +kernel
set_option maxRecDepth 100000 in
theorem okX9_goThrough_3 : OKM (yX9_goThrough, cX9_goThrough, 4, none, 9, 2, 1, 21, 1) ((kX9_goThrough.drop 120).take 60) := by unfold OKM; decide +kernel
set_option maxRecDepth 100000 in
theorem okX9_goThrough : OKM (yX9_goThrough, cX9_goThrough, 4, none, 9, 2, 1, 21, 1) kX9_goThrough := by
  have h : kX9_goThrough = kX9_goThrough.take 60 ++ ((kX9_goThrough.drop 60).take 60 ++ ((kX9_goThrough.drop 120).take 60)) := rfl
  unfold OKM
  rw [h]
  exact List.forall_mem_append.mpr ⟨okX9_goThrough_1, List.forall_mem_append.mpr ⟨okX9_goThrough_2, okX9_goThrough_3⟩⟩
set_option maxRecDepth 100000 in
theorem okX9_heightOf : OKM (yX9_heightOf, cX9_heightOf, 4, (some .int), 9, 2, 1, 21, 1) kX9_heightOf := by unfold OKM; decide +kernel
set_option maxRecDepth 100000 in
theorem okX9_nodesOf : OKM (yX9_nodesOf, cX9_nodesOf, 4, (some .int), 9, 2, 0, 0, 1) kX9_nodesOf := by unfold OKM; decide +kernel
set_option maxRecDepth 100000 in
theorem okX9_fail : OKM (yX9_fail, cX9_fail, 3, none, 9, 3, 2, 45, 1) kX9_fail := by unfold OKM; decide +kernel
set_option maxRecDepth 100000 in
theorem okX9_note_1 : OKM (yX9_note, cX9_note, 5, none, 9, 3, 5, 123, 1) (kX9_note.take 60) := by unfold OKM; decide +kernel
set_option maxRecDepth 100000 in
theorem okX9_note_2 : OKM (yX9_note, cX9_note, 5, none, 9, 3, 5, 123, 1) ((kX9_note.drop 60).take 60) := by unfold OKM; decide +kernel
set_option maxRecDepth 100000 in
theorem okX9_note : OKM (yX9_note, cX9_note, 5, none, 9, 3, 5, 123, 1) kX9_note := by
  have h : kX9_note = kX9_note.take 60 ++ ((kX9_note.drop 60).take 60) := rfl
  unfold OKM
  rw [h]
  exact List.forall_mem_append.mpr ⟨okX9_note_1, okX9_note_2⟩
set_option maxRecDepth 100000 in
theorem okX9_keepBefore : OKM (yX9_keepBefore, cX9_keepBefore, 3, none, 9, 2, 0, 0, 1) kX9_keepBefore := by unfold OKM; decide +kernel
set_option maxRecDepth 100000 in
theorem okX9_sameKey : OKM (yX9_sameKey, cX9_sameKey, 9, (some .boolean), 9, 6, 0, 0, 1) kX9_sameKey := by unfold OKM; decide +kernel
set_option maxRecDepth 100000 in
theorem okX9_hadKey : OKM (yX9_hadKey, cX9_hadKey, 4, (some .boolean), 9, 4, 1, 28, 1) kX9_hadKey := by unfold OKM; decide +kernel
set_option maxRecDepth 100000 in
theorem okX9_hasKey : OKM (yX9_hasKey, cX9_hasKey, 5, (some .boolean), 9, 5, 1, 28, 1) kX9_hasKey := by unfold OKM; decide +kernel
set_option maxRecDepth 100000 in
theorem okX9_changed_1 : OKM (yX9_changed, cX9_changed, 3, none, 9, 2, 6, 147, 1) (kX9_changed.take 60) := by unfold OKM; decide +kernel
set_option maxRecDepth 100000 in
theorem okX9_changed_2 : OKM (yX9_changed, cX9_changed, 3, none, 9, 2, 6, 147, 1) ((kX9_changed.drop 60).take 60) := by unfold OKM; decide +kernel
set_option maxRecDepth 100000 in
theorem okX9_changed : OKM (yX9_changed, cX9_changed, 3, none, 9, 2, 6, 147, 1) kX9_changed := by
  have h : kX9_changed = kX9_changed.take 60 ++ ((kX9_changed.drop 60).take 60) := rfl
  unfold OKM
  rw [h]
  exact List.forall_mem_append.mpr ⟨okX9_changed_1, okX9_changed_2⟩
set_option maxRecDepth 100000 in
theorem okX9_sharesKey : OKM (yX9_sharesKey, cX9_sharesKey, 7, (some .boolean), 9, 6, 1, 28, 1) kX9_sharesKey := by unfold OKM; decide +kernel
set_option maxRecDepth 100000 in
theorem okX9_clash_1 : OKM (yX9_clash, cX9_clash, 5, (some .boolean), 9, 4, 2, 54, 1) (kX9_clash.take 60) := by unfold OKM; decide +kernel
set_option maxRecDepth 100000 in
theorem okX9_clash_2 : OKM (yX9_clash, cX9_clash, 5, (some .boolean), 9, 4, 2, 54, 1) ((kX9_clash.drop 60).take 60) := by unfold OKM; decide +kernel
set_option maxRecDepth 100000 in
theorem okX9_clash : OKM (yX9_clash, cX9_clash, 5, (some .boolean), 9, 4, 2, 54, 1) kX9_clash := by
  have h : kX9_clash = kX9_clash.take 60 ++ ((kX9_clash.drop 60).take 60) := rfl
  unfold OKM
  rw [h]
  exact List.forall_mem_append.mpr ⟨okX9_clash_1, okX9_clash_2⟩
set_option maxRecDepth 100000 in
theorem okX9_clashOf : OKM (yX9_clashOf, cX9_clashOf, 4, (some .int), 9, 3, 3, 78, 1) kX9_clashOf := by unfold OKM; decide +kernel
set_option maxRecDepth 100000 in
theorem okX9_begin : OKM (yX9_begin, cX9_begin, 2, (some .int), 9, 1, 0, 0, 1) kX9_begin := by unfold OKM; decide +kernel
set_option maxRecDepth 100000 in
theorem okX9_write_1 : OKM (yX9_write, cX9_write, 8, (some .int), 9, 4, 7, 169, 1) (kX9_write.take 60) := by unfold OKM; decide +kernel
set_option maxRecDepth 100000 in
theorem okX9_write_2 : OKM (yX9_write, cX9_write, 8, (some .int), 9, 4, 7, 169, 1) ((kX9_write.drop 60).take 60) := by unfold OKM; decide +kernel
set_option maxRecDepth 100000 in
theorem okX9_write_3 : OKM (yX9_write, cX9_write, 8, (some .int), 9, 4, 7, 169, 1) ((kX9_write.drop 120).take 60) := by unfold OKM; decide +kernel
set_option maxRecDepth 100000 in
theorem okX9_write : OKM (yX9_write, cX9_write, 8, (some .int), 9, 4, 7, 169, 1) kX9_write := by
  have h : kX9_write = kX9_write.take 60 ++ ((kX9_write.drop 60).take 60 ++ ((kX9_write.drop 120).take 60)) := rfl
  unfold OKM
  rw [h]
  exact List.forall_mem_append.mpr ⟨okX9_write_1, List.forall_mem_append.mpr ⟨okX9_write_2, okX9_write_3⟩⟩
set_option maxRecDepth 100000 in
theorem okX9_insert : OKM (yX9_insert, cX9_insert, 8, (some .int), 9, 6, 8, 196, 1) kX9_insert := by unfold OKM; decide +kernel
set_option maxRecDepth 100000 in
theorem okX9_isLocked : OKM (yX9_isLocked, cX9_isLocked, 3, (some .boolean), 9, 3, 2, 42, 1) kX9_isLocked := by unfold OKM; decide +kernel
set_option maxRecDepth 100000 in
theorem okX9_update_1 : OKM (yX9_update, cX9_update, 6, (some .int), 9, 5, 8, 196, 1) (kX9_update.take 60) := by unfold OKM; decide +kernel
set_option maxRecDepth 100000 in
theorem okX9_update_2 : OKM (yX9_update, cX9_update, 6, (some .int), 9, 5, 8, 196, 1) ((kX9_update.drop 60).take 60) := by unfold OKM; decide +kernel
set_option maxRecDepth 100000 in
theorem okX9_update : OKM (yX9_update, cX9_update, 6, (some .int), 9, 5, 8, 196, 1) kX9_update := by
  have h : kX9_update = kX9_update.take 60 ++ ((kX9_update.drop 60).take 60) := rfl
  unfold OKM
  rw [h]
  exact List.forall_mem_append.mpr ⟨okX9_update_1, okX9_update_2⟩
set_option maxRecDepth 100000 in
theorem okX9_remove : OKM (yX9_remove, cX9_remove, 3, (some .int), 9, 3, 8, 196, 1) kX9_remove := by unfold OKM; decide +kernel
set_option maxRecDepth 100000 in
theorem okX9_records : OKM (yX9_records, cX9_records, 2, (some .int), 9, 2, 2, 43, 1) kX9_records := by unfold OKM; decide +kernel
set_option maxRecDepth 100000 in
theorem okX9_undoOne_1 : OKM (yX9_undoOne, cX9_undoOne, 5, none, 9, 2, 7, 169, 1) (kX9_undoOne.take 60) := by unfold OKM; decide +kernel
set_option maxRecDepth 100000 in
theorem okX9_undoOne_2 : OKM (yX9_undoOne, cX9_undoOne, 5, none, 9, 2, 7, 169, 1) ((kX9_undoOne.drop 60).take 60) := by unfold OKM; decide +kernel
set_option maxRecDepth 100000 in
theorem okX9_undoOne : OKM (yX9_undoOne, cX9_undoOne, 5, none, 9, 2, 7, 169, 1) kX9_undoOne := by
  have h : kX9_undoOne = kX9_undoOne.take 60 ++ ((kX9_undoOne.drop 60).take 60) := rfl
  unfold OKM
  rw [h]
  exact List.forall_mem_append.mpr ⟨okX9_undoOne_1, okX9_undoOne_2⟩
set_option maxRecDepth 100000 in
theorem okX9_undo : OKM (yX9_undo, cX9_undo, 3, (some .int), 9, 3, 9, 216, 1) kX9_undo := by unfold OKM; decide +kernel
set_option maxRecDepth 100000 in
theorem okX9_undoTo : OKM (yX9_undoTo, cX9_undoTo, 4, (some .int), 9, 3, 8, 193, 1) kX9_undoTo := by unfold OKM; decide +kernel
set_option maxRecDepth 100000 in
theorem okX9_wouldClash_1 : OKM (yX9_wouldClash, cX9_wouldClash, 7, (some .boolean), 9, 3, 4, 101, 1) (kX9_wouldClash.take 60) := by unfold OKM; decide +kernel
set_option maxRecDepth 100000 in
theorem okX9_wouldClash_2 : OKM (yX9_wouldClash, cX9_wouldClash, 7, (some .boolean), 9, 3, 4, 101, 1) ((kX9_wouldClash.drop 60).take 60) := by unfold OKM; decide +kernel
set_option maxRecDepth 100000 in
theorem okX9_wouldClash_3 : OKM (yX9_wouldClash, cX9_wouldClash, 7, (some .boolean), 9, 3, 4, 101, 1) ((kX9_wouldClash.drop 120).take 60) := by unfold OKM; decide +kernel
set_option maxRecDepth 100000 in
theorem okX9_wouldClash_4 : OKM (yX9_wouldClash, cX9_wouldClash, 7, (some .boolean), 9, 3, 4, 101, 1) ((kX9_wouldClash.drop 180).take 60) := by unfold OKM; decide +kernel
set_option maxRecDepth 100000 in
theorem okX9_wouldClash : OKM (yX9_wouldClash, cX9_wouldClash, 7, (some .boolean), 9, 3, 4, 101, 1) kX9_wouldClash := by
  have h : kX9_wouldClash = kX9_wouldClash.take 60 ++ ((kX9_wouldClash.drop 60).take 60 ++ ((kX9_wouldClash.drop 120).take 60 ++ ((kX9_wouldClash.drop 180).take 60))) := rfl
  unfold OKM
  rw [h]
  exact List.forall_mem_append.mpr ⟨okX9_wouldClash_1, List.forall_mem_append.mpr ⟨okX9_wouldClash_2, List.forall_mem_append.mpr ⟨okX9_wouldClash_3, okX9_wouldClash_4⟩⟩⟩
set_option maxRecDepth 100000 in
theorem okX9_commit_1 : OKM (yX9_commit, cX9_commit, 5, (some .int), 9, 2, 7, 169, 1) (kX9_commit.take 60) := by unfold OKM; decide +kernel
set_option maxRecDepth 100000 in
theorem okX9_commit_2 : OKM (yX9_commit, cX9_commit, 5, (some .int), 9, 2, 7, 169, 1) ((kX9_commit.drop 60).take 60) := by unfold OKM; decide +kernel
set_option maxRecDepth 100000 in
theorem okX9_commit : OKM (yX9_commit, cX9_commit, 5, (some .int), 9, 2, 7, 169, 1) kX9_commit := by
  have h : kX9_commit = kX9_commit.take 60 ++ ((kX9_commit.drop 60).take 60) := rfl
  unfold OKM
  rw [h]
  exact List.forall_mem_append.mpr ⟨okX9_commit_1, okX9_commit_2⟩
set_option maxRecDepth 100000 in
theorem okX9_abort : OKM (yX9_abort, cX9_abort, 3, (some .int), 9, 2, 9, 216, 1) kX9_abort := by unfold OKM; decide +kernel
set_option maxRecDepth 100000 in
theorem okX9_index_1 : OKM (yX9_index, cX9_index, 7, (some .int), 9, 5, 2, 45, 1) (kX9_index.take 60) := by unfold OKM; decide +kernel
set_option maxRecDepth 100000 in
theorem okX9_index_2 : OKM (yX9_index, cX9_index, 7, (some .int), 9, 5, 2, 45, 1) ((kX9_index.drop 60).take 60) := by unfold OKM; decide +kernel
set_option maxRecDepth 100000 in
theorem okX9_index_3 : OKM (yX9_index, cX9_index, 7, (some .int), 9, 5, 2, 45, 1) ((kX9_index.drop 120).take 60) := by unfold OKM; decide +kernel
set_option maxRecDepth 100000 in
theorem okX9_index : OKM (yX9_index, cX9_index, 7, (some .int), 9, 5, 2, 45, 1) kX9_index := by
  have h : kX9_index = kX9_index.take 60 ++ ((kX9_index.drop 60).take 60 ++ ((kX9_index.drop 120).take 60)) := rfl
  unfold OKM
  rw [h]
  exact List.forall_mem_append.mpr ⟨okX9_index_1, List.forall_mem_append.mpr ⟨okX9_index_2, okX9_index_3⟩⟩
set_option maxRecDepth 100000 in
theorem okX9_drop : OKM (yX9_drop, cX9_drop, 2, (some .int), 9, 2, 2, 43, 1) kX9_drop := by unfold OKM; decide +kernel
set_option maxRecDepth 100000 in
theorem okX9_pick_1 : OKM (yX9_pick, cX9_pick, 4, none, 9, 2, 1, 22, 1) (kX9_pick.take 60) := by unfold OKM; decide +kernel
set_option maxRecDepth 100000 in
theorem okX9_pick_2 : OKM (yX9_pick, cX9_pick, 4, none, 9, 2, 1, 22, 1) ((kX9_pick.drop 60).take 60) := by unfold OKM; decide +kernel
set_option maxRecDepth 100000 in
theorem okX9_pick : OKM (yX9_pick, cX9_pick, 4, none, 9, 2, 1, 22, 1) kX9_pick := by
  have h : kX9_pick = kX9_pick.take 60 ++ ((kX9_pick.drop 60).take 60) := rfl
  unfold OKM
  rw [h]
  exact List.forall_mem_append.mpr ⟨okX9_pick_1, okX9_pick_2⟩
set_option maxRecDepth 100000 in
theorem okX9_isBefore : OKM (yX9_isBefore, cX9_isBefore, 3, (some .boolean), 9, 2, 0, 0, 1) kX9_isBefore := by unfold OKM; decide +kernel
set_option maxRecDepth 100000 in
theorem okX9_scanStep_1 : OKM (yX9_scanStep, cX9_scanStep, 3, none, 9, 2, 2, 45, 1) (kX9_scanStep.take 60) := by unfold OKM; decide +kernel
set_option maxRecDepth 100000 in
theorem okX9_scanStep_2 : OKM (yX9_scanStep, cX9_scanStep, 3, none, 9, 2, 2, 45, 1) ((kX9_scanStep.drop 60).take 60) := by unfold OKM; decide +kernel
set_option maxRecDepth 100000 in
theorem okX9_scanStep : OKM (yX9_scanStep, cX9_scanStep, 3, none, 9, 2, 2, 45, 1) kX9_scanStep := by
  have h : kX9_scanStep = kX9_scanStep.take 60 ++ ((kX9_scanStep.drop 60).take 60) := rfl
  unfold OKM
  rw [h]
  exact List.forall_mem_append.mpr ⟨okX9_scanStep_1, okX9_scanStep_2⟩
set_option maxRecDepth 100000 in
theorem okX9_loadStep_1 : OKM (yX9_loadStep, cX9_loadStep, 5, none, 9, 2, 4, 91, 1) (kX9_loadStep.take 60) := by unfold OKM; decide +kernel
set_option maxRecDepth 100000 in
theorem okX9_loadStep_2 : OKM (yX9_loadStep, cX9_loadStep, 5, none, 9, 2, 4, 91, 1) ((kX9_loadStep.drop 60).take 60) := by unfold OKM; decide +kernel
set_option maxRecDepth 100000 in
theorem okX9_loadStep : OKM (yX9_loadStep, cX9_loadStep, 5, none, 9, 2, 4, 91, 1) kX9_loadStep := by
  have h : kX9_loadStep = kX9_loadStep.take 60 ++ ((kX9_loadStep.drop 60).take 60) := rfl
  unfold OKM
  rw [h]
  exact List.forall_mem_append.mpr ⟨okX9_loadStep_1, okX9_loadStep_2⟩
set_option maxRecDepth 100000 in
theorem okX9_catchStep_1 : OKM (yX9_catchStep, cX9_catchStep, 6, none, 9, 2, 5, 123, 1) (kX9_catchStep.take 60) := by unfold OKM; decide +kernel
set_option maxRecDepth 100000 in
theorem okX9_catchStep_2 : OKM (yX9_catchStep, cX9_catchStep, 6, none, 9, 2, 5, 123, 1) ((kX9_catchStep.drop 60).take 60) := by unfold OKM; decide +kernel
set_option maxRecDepth 100000 in
theorem okX9_catchStep_3 : OKM (yX9_catchStep, cX9_catchStep, 6, none, 9, 2, 5, 123, 1) ((kX9_catchStep.drop 120).take 60) := by unfold OKM; decide +kernel
set_option maxRecDepth 100000 in
theorem okX9_catchStep : OKM (yX9_catchStep, cX9_catchStep, 6, none, 9, 2, 5, 123, 1) kX9_catchStep := by
  have h : kX9_catchStep = kX9_catchStep.take 60 ++ ((kX9_catchStep.drop 60).take 60 ++ ((kX9_catchStep.drop 120).take 60)) := rfl
  unfold OKM
  rw [h]
  exact List.forall_mem_append.mpr ⟨okX9_catchStep_1, List.forall_mem_append.mpr ⟨okX9_catchStep_2, okX9_catchStep_3⟩⟩
set_option maxRecDepth 100000 in
theorem okX9_step : OKM (yX9_step, cX9_step, 4, (some .int), 9, 3, 6, 148, 1) kX9_step := by unfold OKM; decide +kernel
set_option maxRecDepth 100000 in
theorem okX9_info_1 : OKM (yX9_info, cX9_info, 3, (some .int), 9, 3, 2, 44, 1) (kX9_info.take 60) := by unfold OKM; decide +kernel
set_option maxRecDepth 100000 in
theorem okX9_info_2 : OKM (yX9_info, cX9_info, 3, (some .int), 9, 3, 2, 44, 1) ((kX9_info.drop 60).take 60) := by unfold OKM; decide +kernel
set_option maxRecDepth 100000 in
theorem okX9_info : OKM (yX9_info, cX9_info, 3, (some .int), 9, 3, 2, 44, 1) kX9_info := by
  have h : kX9_info = kX9_info.take 60 ++ ((kX9_info.drop 60).take 60) := rfl
  unfold OKM
  rw [h]
  exact List.forall_mem_append.mpr ⟨okX9_info_1, okX9_info_2⟩
set_option maxRecDepth 100000 in
theorem okX9_entry : OKM (yX9_entry, cX9_entry, 4, (some .int), 9, 4, 2, 44, 1) kX9_entry := by unfold OKM; decide +kernel
set_option maxRecDepth 100000 in
theorem okX9_where : OKM (yX9_where, cX9_where, 4, (some .int), 9, 4, 1, 22, 1) kX9_where := by unfold OKM; decide +kernel
set_option maxRecDepth 100000 in
theorem okX9_seesAny : OKM (yX9_seesAny, cX9_seesAny, 3, (some .boolean), 9, 3, 0, 0, 1) kX9_seesAny := by unfold OKM; decide +kernel
set_option maxRecDepth 100000 in
theorem okX9_seen : OKM (yX9_seen, cX9_seen, 4, (some .int), 9, 4, 0, 0, 1) kX9_seen := by unfold OKM; decide +kernel
set_option maxRecDepth 100000 in
theorem okX9_fits : OKM (yX9_fits, cX9_fits, 5, (some .boolean), 9, 3, 1, 23, 1) kX9_fits := by unfold OKM; decide +kernel
set_option maxRecDepth 100000 in
theorem okX9_isInRange : OKM (yX9_isInRange, cX9_isInRange, 6, (some .boolean), 9, 3, 1, 22, 1) kX9_isInRange := by unfold OKM; decide +kernel
set_option maxRecDepth 100000 in
theorem okX9_rangeOf : OKM (yX9_rangeOf, cX9_rangeOf, 4, (some .int), 9, 2, 2, 47, 1) kX9_rangeOf := by unfold OKM; decide +kernel
set_option maxRecDepth 100000 in
theorem okX9_costOf_1 : OKM (yX9_costOf, cX9_costOf, 6, (some .int), 9, 2, 3, 70, 1) (kX9_costOf.take 60) := by unfold OKM; decide +kernel
set_option maxRecDepth 100000 in
theorem okX9_costOf_2 : OKM (yX9_costOf, cX9_costOf, 6, (some .int), 9, 2, 3, 70, 1) ((kX9_costOf.drop 60).take 60) := by unfold OKM; decide +kernel
set_option maxRecDepth 100000 in
theorem okX9_costOf : OKM (yX9_costOf, cX9_costOf, 6, (some .int), 9, 2, 3, 70, 1) kX9_costOf := by
  have h : kX9_costOf = kX9_costOf.take 60 ++ ((kX9_costOf.drop 60).take 60) := rfl
  unfold OKM
  rw [h]
  exact List.forall_mem_append.mpr ⟨okX9_costOf_1, okX9_costOf_2⟩
set_option maxRecDepth 100000 in
theorem okX9_hasSeenKey : OKM (yX9_hasSeenKey, cX9_hasSeenKey, 7, (some .boolean), 9, 4, 1, 23, 1) kX9_hasSeenKey := by unfold OKM; decide +kernel
set_option maxRecDepth 100000 in
theorem okX9_isSeer : OKM (yX9_isSeer, cX9_isSeer, 2, (some .boolean), 9, 2, 2, 43, 1) kX9_isSeer := by unfold OKM; decide +kernel
set_option maxRecDepth 100000 in
theorem okX9_ask_1 : OKM (yX9_ask, cX9_ask, 7, (some .int), 9, 3, 4, 95, 1) (kX9_ask.take 60) := by unfold OKM; decide +kernel
set_option maxRecDepth 100000 in
theorem okX9_ask_2 : OKM (yX9_ask, cX9_ask, 7, (some .int), 9, 3, 4, 95, 1) ((kX9_ask.drop 60).take 60) := by unfold OKM; decide +kernel
set_option maxRecDepth 100000 in
theorem okX9_ask_3 : OKM (yX9_ask, cX9_ask, 7, (some .int), 9, 3, 4, 95, 1) ((kX9_ask.drop 120).take 60) := by unfold OKM; decide +kernel
set_option maxRecDepth 100000 in
theorem okX9_ask : OKM (yX9_ask, cX9_ask, 7, (some .int), 9, 3, 4, 95, 1) kX9_ask := by
  have h : kX9_ask = kX9_ask.take 60 ++ ((kX9_ask.drop 60).take 60 ++ ((kX9_ask.drop 120).take 60)) := rfl
  unfold OKM
  rw [h]
  exact List.forall_mem_append.mpr ⟨okX9_ask_1, List.forall_mem_append.mpr ⟨okX9_ask_2, okX9_ask_3⟩⟩
set_option maxRecDepth 100000 in
theorem okX9_answer : OKM (yX9_answer, cX9_answer, 2, (some .int), 9, 2, 1, 22, 1) kX9_answer := by unfold OKM; decide +kernel
set_option maxRecDepth 100000 in
theorem okX9_asked : OKM (yX9_asked, cX9_asked, 2, (some .int), 9, 2, 0, 0, 1) kX9_asked := by unfold OKM; decide +kernel
set_option maxRecDepth 100000 in
theorem okX9_cost : OKM (yX9_cost, cX9_cost, 2, (some .int), 9, 2, 4, 95, 1) kX9_cost := by unfold OKM; decide +kernel
set_option maxRecDepth 100000 in
theorem okX9_sees : OKM (yX9_sees, cX9_sees, 3, (some .int), 9, 3, 3, 64, 1) kX9_sees := by unfold OKM; decide +kernel
set_option maxRecDepth 100000 in
theorem okX9_field : OKM (yX9_field, cX9_field, 4, (some .int), 9, 4, 3, 64, 1) kX9_field := by unfold OKM; decide +kernel
set_option maxRecDepth 100000 in
theorem okX9_writer : OKM (yX9_writer, cX9_writer, 2, (some .int), 9, 2, 2, 42, 1) kX9_writer := by unfold OKM; decide +kernel
set_option maxRecDepth 100000 in
theorem okX9_count_1 : OKM (yX9_count, cX9_count, 4, (some .int), 9, 2, 3, 64, 1) (kX9_count.take 60) := by unfold OKM; decide +kernel
set_option maxRecDepth 100000 in
theorem okX9_count_2 : OKM (yX9_count, cX9_count, 4, (some .int), 9, 2, 3, 64, 1) ((kX9_count.drop 60).take 60) := by unfold OKM; decide +kernel
set_option maxRecDepth 100000 in
theorem okX9_count : OKM (yX9_count, cX9_count, 4, (some .int), 9, 2, 3, 64, 1) kX9_count := by
  have h : kX9_count = kX9_count.take 60 ++ ((kX9_count.drop 60).take 60) := rfl
  unfold OKM
  rw [h]
  exact List.forall_mem_append.mpr ⟨okX9_count_1, okX9_count_2⟩
set_option maxRecDepth 100000 in
theorem okX9_entriesOf_1 : OKM (yX9_entriesOf, cX9_entriesOf, 5, (some .int), 9, 2, 1, 28, 1) (kX9_entriesOf.take 60) := by unfold OKM; decide +kernel
set_option maxRecDepth 100000 in
theorem okX9_entriesOf_2 : OKM (yX9_entriesOf, cX9_entriesOf, 5, (some .int), 9, 2, 1, 28, 1) ((kX9_entriesOf.drop 60).take 60) := by unfold OKM; decide +kernel
set_option maxRecDepth 100000 in
theorem okX9_entriesOf : OKM (yX9_entriesOf, cX9_entriesOf, 5, (some .int), 9, 2, 1, 28, 1) kX9_entriesOf := by
  have h : kX9_entriesOf = kX9_entriesOf.take 60 ++ ((kX9_entriesOf.drop 60).take 60) := rfl
  unfold OKM
  rw [h]
  exact List.forall_mem_append.mpr ⟨okX9_entriesOf_1, okX9_entriesOf_2⟩
set_option maxRecDepth 100000 in
theorem okX9_audit_1 : OKM (yX9_audit, cX9_audit, 5, (some .int), 9, 1, 4, 101, 1) (kX9_audit.take 60) := by unfold OKM; decide +kernel
set_option maxRecDepth 100000 in
theorem okX9_audit_2 : OKM (yX9_audit, cX9_audit, 5, (some .int), 9, 1, 4, 101, 1) ((kX9_audit.drop 60).take 60) := by unfold OKM; decide +kernel
set_option maxRecDepth 100000 in
theorem okX9_audit : OKM (yX9_audit, cX9_audit, 5, (some .int), 9, 1, 4, 101, 1) kX9_audit := by
  have h : kX9_audit = kX9_audit.take 60 ++ ((kX9_audit.drop 60).take 60) := rfl
  unfold OKM
  rw [h]
  exact List.forall_mem_append.mpr ⟨okX9_audit_1, okX9_audit_2⟩
set_option maxRecDepth 100000 in
theorem okJ7_fill_53178 : OKM (yJ7_fill_53178, cJ7_fill_53178, 4, none, 12, 2, 0, 0, 0) kJ7_fill_53178 := by unfold OKM; decide +kernel
set_option maxRecDepth 100000 in
theorem okX5_hasNoImage : OKM (yX5_hasNoImage, cX5_hasNoImage, 2, (some .boolean), 5, 2, 1, 21, 1) kX5_hasNoImage := by unfold OKM; decide +kernel
set_option maxRecDepth 100000 in
theorem okX7_haveOneKey : OKM (yX7_haveOneKey, cX7_haveOneKey, 4, (some .boolean), 7, 3, 2, 46, 1) kX7_haveOneKey := by unfold OKM; decide +kernel
set_option maxRecDepth 100000 in
theorem okL_law_1 : OKM (yL_law, code, 4, (some .boolean), 10, 1, 10, 238, 0) (kL_law.take 60) := by unfold OKM; decide +kernel
set_option maxRecDepth 100000 in
theorem okL_law_2 : OKM (yL_law, code, 4, (some .boolean), 10, 1, 10, 238, 0) ((kL_law.drop 60).take 60) := by unfold OKM; decide +kernel
set_option maxRecDepth 100000 in
theorem okL_law_3 : OKM (yL_law, code, 4, (some .boolean), 10, 1, 10, 238, 0) ((kL_law.drop 120).take 60) := by unfold OKM; decide +kernel
set_option maxRecDepth 100000 in
theorem okL_law_4 : OKM (yL_law, code, 4, (some .boolean), 10, 1, 10, 238, 0) ((kL_law.drop 180).take 60) := by unfold OKM; decide +kernel
set_option maxRecDepth 100000 in
theorem okL_law_5 : OKM (yL_law, code, 4, (some .boolean), 10, 1, 10, 238, 0) ((kL_law.drop 240).take 60) := by unfold OKM; decide +kernel
set_option maxRecDepth 100000 in
theorem okL_law_6 : OKM (yL_law, code, 4, (some .boolean), 10, 1, 10, 238, 0) ((kL_law.drop 300).take 60) := by unfold OKM; decide +kernel
set_option maxRecDepth 100000 in
theorem okL_law_7 : OKM (yL_law, code, 4, (some .boolean), 10, 1, 10, 238, 0) ((kL_law.drop 360).take 60) := by unfold OKM; decide +kernel
set_option maxRecDepth 100000 in
theorem okL_law_8 : OKM (yL_law, code, 4, (some .boolean), 10, 1, 10, 238, 0) ((kL_law.drop 420).take 60) := by unfold OKM; decide +kernel
set_option maxRecDepth 100000 in
theorem okL_law_9 : OKM (yL_law, code, 4, (some .boolean), 10, 1, 10, 238, 0) ((kL_law.drop 480).take 60) := by unfold OKM; decide +kernel
set_option maxRecDepth 100000 in
theorem okL_law_10 : OKM (yL_law, code, 4, (some .boolean), 10, 1, 10, 238, 0) ((kL_law.drop 540).take 60) := by unfold OKM; decide +kernel
set_option maxRecDepth 100000 in
theorem okL_law_11 : OKM (yL_law, code, 4, (some .boolean), 10, 1, 10, 238, 0) ((kL_law.drop 600).take 60) := by unfold OKM; decide +kernel
set_option maxRecDepth 100000 in
theorem okL_law : OKM (yL_law, code, 4, (some .boolean), 10, 1, 10, 238, 0) kL_law := by
  have h : kL_law = kL_law.take 60 ++ ((kL_law.drop 60).take 60 ++ ((kL_law.drop 120).take 60 ++ ((kL_law.drop 180).take 60 ++ ((kL_law.drop 240).take 60 ++ ((kL_law.drop 300).take 60 ++ ((kL_law.drop 360).take 60 ++ ((kL_law.drop 420).take 60 ++ ((kL_law.drop 480).take 60 ++ ((kL_law.drop 540).take 60 ++ ((kL_law.drop 600).take 60)))))))))) := rfl
  unfold OKM
  rw [h]
  exact List.forall_mem_append.mpr ⟨okL_law_1, List.forall_mem_append.mpr ⟨okL_law_2, List.forall_mem_append.mpr ⟨okL_law_3, List.forall_mem_append.mpr ⟨okL_law_4, List.forall_mem_append.mpr ⟨okL_law_5, List.forall_mem_append.mpr ⟨okL_law_6, List.forall_mem_append.mpr ⟨okL_law_7, List.forall_mem_append.mpr ⟨okL_law_8, List.forall_mem_append.mpr ⟨okL_law_9, List.forall_mem_append.mpr ⟨okL_law_10, okL_law_11⟩⟩⟩⟩⟩⟩⟩⟩⟩⟩
theorem okz_0 : ∀ p ∈ mT0.zip cd0, OKM p.1 p.2 := List.forall_mem_cons.mpr ⟨okX0_init, List.forall_mem_cons.mpr ⟨okX0_word, List.forall_mem_cons.mpr ⟨okX0_set, List.forall_mem_cons.mpr ⟨okX0_copy, List.forall_mem_cons.mpr ⟨okX0_compare, List.forall_mem_cons.mpr ⟨okX1_init, List.forall_mem_cons.mpr ⟨okX1_has, List.forall_mem_cons.mpr ⟨okX1_valueOf, List.forall_mem_cons.mpr ⟨okX1_set, List.forall_mem_cons.mpr ⟨okX1_put, List.forall_mem_cons.mpr ⟨okX1_clear, List.forall_mem_cons.mpr ⟨okX1_copy, List.forall_mem_cons.mpr ⟨okX1_copyAll, List.forall_mem_cons.mpr ⟨okX2_init, List.forall_mem_cons.mpr ⟨okX2_start, List.forall_mem_cons.mpr ⟨okX2_forgetEntries, List.forall_mem_cons.mpr ⟨okX2_isBuilding, List.forall_mem_cons.mpr ⟨okX2_isGuard, List.forall_mem_cons.mpr ⟨okX2_haveOneKey, List.forall_mem_cons.mpr ⟨okX2_makeEntry, List.forall_mem_cons.mpr ⟨okX2_hasKeyOf, List.forall_mem_cons.mpr ⟨okX2_makeComing, List.forall_mem_cons.mpr ⟨okX2_makeGoing, List.forall_mem_cons.mpr ⟨okX2_takeMade, List.forall_mem_cons.mpr ⟨okX2_fail, List.forall_mem_cons.mpr ⟨okX2_takeStep, List.forall_mem_cons.mpr ⟨okX2_scanPage, List.forall_mem_cons.mpr ⟨okX2_loadSome, List.forall_mem_cons.mpr ⟨okX2_catchUp, List.forall_mem_cons.mpr ⟨okX2_finish, (fun _ h => absurd h List.not_mem_nil)⟩⟩⟩⟩⟩⟩⟩⟩⟩⟩⟩⟩⟩⟩⟩⟩⟩⟩⟩⟩⟩⟩⟩⟩⟩⟩⟩⟩⟩⟩
theorem okz_1 : ∀ p ∈ mT1.zip cd1, OKM p.1 p.2 := List.forall_mem_cons.mpr ⟨okX2_leastWithClash, List.forall_mem_cons.mpr ⟨okX2_leastClashWith, List.forall_mem_cons.mpr ⟨okX2_isClash, List.forall_mem_cons.mpr ⟨okX2_rangeSize, List.forall_mem_cons.mpr ⟨okX2_isInRange, List.forall_mem_cons.mpr ⟨okX2_faults, List.forall_mem_cons.mpr ⟨okX2_missing, List.forall_mem_cons.mpr ⟨okX3_init, List.forall_mem_cons.mpr ⟨okX3_clear, List.forall_mem_cons.mpr ⟨okX3_isFull, List.forall_mem_cons.mpr ⟨okX3_add, List.forall_mem_cons.mpr ⟨okX3_firstSlot, List.forall_mem_cons.mpr ⟨okX3_firstCame, List.forall_mem_cons.mpr ⟨okX3_takeFirst, List.forall_mem_cons.mpr ⟨okX4_init, List.forall_mem_cons.mpr ⟨okX4_clear, List.forall_mem_cons.mpr ⟨okX4_add, List.forall_mem_cons.mpr ⟨okX4_slotOf, List.forall_mem_cons.mpr ⟨okX4_take, List.forall_mem_cons.mpr ⟨okX5_init, List.forall_mem_cons.mpr ⟨okX5_copyFrom, List.forall_mem_cons.mpr ⟨okX5_isFree, List.forall_mem_cons.mpr ⟨okX5_placesInUse, List.forall_mem_cons.mpr ⟨okX5_seenBy, List.forall_mem_cons.mpr ⟨okX6_init, List.forall_mem_cons.mpr ⟨okX6_isFull, List.forall_mem_cons.mpr ⟨okX6_add, List.forall_mem_cons.mpr ⟨okX6_putBack, List.forall_mem_cons.mpr ⟨okX7_init, List.forall_mem_cons.mpr ⟨okX7_empty, (fun _ h => absurd h List.not_mem_nil)⟩⟩⟩⟩⟩⟩⟩⟩⟩⟩⟩⟩⟩⟩⟩⟩⟩⟩⟩⟩⟩⟩⟩⟩⟩⟩⟩⟩⟩⟩
theorem okz_2 : ∀ p ∈ mT2.zip cd2, OKM p.1 p.2 := List.forall_mem_cons.mpr ⟨okX7_size, List.forall_mem_cons.mpr ⟨okX7_nodes, List.forall_mem_cons.mpr ⟨okX7_height, List.forall_mem_cons.mpr ⟨okX7_wordAt, List.forall_mem_cons.mpr ⟨okX7_depthAt, List.forall_mem_cons.mpr ⟨okX7_holds, List.forall_mem_cons.mpr ⟨okX7_add, List.forall_mem_cons.mpr ⟨okX7_cut, List.forall_mem_cons.mpr ⟨okX7_isLowest, List.forall_mem_cons.mpr ⟨okX7_takeNode, List.forall_mem_cons.mpr ⟨okX7_giveNode, List.forall_mem_cons.mpr ⟨okX7_find, List.forall_mem_cons.mpr ⟨okX7_goToGreatestBelow, List.forall_mem_cons.mpr ⟨okX7_putInto, List.forall_mem_cons.mpr ⟨okX7_takeOut, List.forall_mem_cons.mpr ⟨okX7_splitUpwards, List.forall_mem_cons.mpr ⟨okX7_halve, List.forall_mem_cons.mpr ⟨okX7_mendUpwards, List.forall_mem_cons.mpr ⟨okX7_takeFromLeft, List.forall_mem_cons.mpr ⟨okX7_takeFromRight, List.forall_mem_cons.mpr ⟨okX7_joinAround, List.forall_mem_cons.mpr ⟨okX7_walkAll, List.forall_mem_cons.mpr ⟨okX7_noteWalked, List.forall_mem_cons.mpr ⟨okX7_faults, List.forall_mem_cons.mpr ⟨okX7_nodeFaults, List.forall_mem_cons.mpr ⟨okX8_init, List.forall_mem_cons.mpr ⟨okX8_begin, List.forall_mem_cons.mpr ⟨okX8_insert, List.forall_mem_cons.mpr ⟨okX8_update, List.forall_mem_cons.mpr ⟨okX8_remove, (fun _ h => absurd h List.not_mem_nil)⟩⟩⟩⟩⟩⟩⟩⟩⟩⟩⟩⟩⟩⟩⟩⟩⟩⟩⟩⟩⟩⟩⟩⟩⟩⟩⟩⟩⟩⟩
theorem okz_3 : ∀ p ∈ mT3.zip cd3, OKM p.1 p.2 := List.forall_mem_cons.mpr ⟨okX8_records, List.forall_mem_cons.mpr ⟨okX8_undo, List.forall_mem_cons.mpr ⟨okX8_commit, List.forall_mem_cons.mpr ⟨okX8_abort, List.forall_mem_cons.mpr ⟨okX8_isActive, List.forall_mem_cons.mpr ⟨okX8_isPlace, List.forall_mem_cons.mpr ⟨okX8_isField, List.forall_mem_cons.mpr ⟨okX8_isLocked, List.forall_mem_cons.mpr ⟨okX8_hasRow, List.forall_mem_cons.mpr ⟨okX8_leastFreePlace, List.forall_mem_cons.mpr ⟨okX8_write, List.forall_mem_cons.mpr ⟨okX8_undoTo, List.forall_mem_cons.mpr ⟨okX8_tellIndexes, List.forall_mem_cons.mpr ⟨okX8_wouldClash, List.forall_mem_cons.mpr ⟨okX8_undoWouldClash, List.forall_mem_cons.mpr ⟨okX8_hasGuard, List.forall_mem_cons.mpr ⟨okX8_clashesIn, List.forall_mem_cons.mpr ⟨okX8_index, List.forall_mem_cons.mpr ⟨okX8_drop, List.forall_mem_cons.mpr ⟨okX8_step, List.forall_mem_cons.mpr ⟨okX8_info, List.forall_mem_cons.mpr ⟨okX8_entry, List.forall_mem_cons.mpr ⟨okX8_isIndex, List.forall_mem_cons.mpr ⟨okX8_isKey, List.forall_mem_cons.mpr ⟨okX8_where, List.forall_mem_cons.mpr ⟨okX8_ask, List.forall_mem_cons.mpr ⟨okX8_answer, List.forall_mem_cons.mpr ⟨okX8_asked, List.forall_mem_cons.mpr ⟨okX8_cost, List.forall_mem_cons.mpr ⟨okX8_isReady, (fun _ h => absurd h List.not_mem_nil)⟩⟩⟩⟩⟩⟩⟩⟩⟩⟩⟩⟩⟩⟩⟩⟩⟩⟩⟩⟩⟩⟩⟩⟩⟩⟩⟩⟩⟩⟩
theorem okz_4 : ∀ p ∈ mT4.zip cd4, OKM p.1 p.2 := List.forall_mem_cons.mpr ⟨okX8_cheapestWay, List.forall_mem_cons.mpr ⟨okX8_costOf, List.forall_mem_cons.mpr ⟨okX8_pagesInUse, List.forall_mem_cons.mpr ⟨okX8_answerByScan, List.forall_mem_cons.mpr ⟨okX8_answerByIndex, List.forall_mem_cons.mpr ⟨okX8_fits, List.forall_mem_cons.mpr ⟨okX8_tell, List.forall_mem_cons.mpr ⟨okX8_sees, List.forall_mem_cons.mpr ⟨okX8_field, List.forall_mem_cons.mpr ⟨okX8_writer, List.forall_mem_cons.mpr ⟨okX8_count, List.forall_mem_cons.mpr ⟨okX8_audit, List.forall_mem_cons.mpr ⟨okX8_activeTransactions, List.forall_mem_cons.mpr ⟨okX8_indexesFrom, List.forall_mem_cons.mpr ⟨okX9_init, List.forall_mem_cons.mpr ⟨okX9_in, List.forall_mem_cons.mpr ⟨okX9_isActive, List.forall_mem_cons.mpr ⟨okX9_isIndex, List.forall_mem_cons.mpr ⟨okX9_isReady, List.forall_mem_cons.mpr ⟨okX9_isPlace, List.forall_mem_cons.mpr ⟨okX9_isFree, List.forall_mem_cons.mpr ⟨okX9_entryOf, List.forall_mem_cons.mpr ⟨okX9_compare, List.forall_mem_cons.mpr ⟨okX9_copySlot, List.forall_mem_cons.mpr ⟨okX9_fillSlot, List.forall_mem_cons.mpr ⟨okX9_node, List.forall_mem_cons.mpr ⟨okX9_emptyTree, List.forall_mem_cons.mpr ⟨okX9_isLowest, List.forall_mem_cons.mpr ⟨okX9_slotFor, List.forall_mem_cons.mpr ⟨okX9_find, (fun _ h => absurd h List.not_mem_nil)⟩⟩⟩⟩⟩⟩⟩⟩⟩⟩⟩⟩⟩⟩⟩⟩⟩⟩⟩⟩⟩⟩⟩⟩⟩⟩⟩⟩⟩⟩
theorem okz_5 : ∀ p ∈ mT5.zip cd5, OKM p.1 p.2 := List.forall_mem_cons.mpr ⟨okX9_addAt, List.forall_mem_cons.mpr ⟨okX9_takeSlot, List.forall_mem_cons.mpr ⟨okX9_comesToTree, List.forall_mem_cons.mpr ⟨okX9_takeOut, List.forall_mem_cons.mpr ⟨okX9_goesFromTree, List.forall_mem_cons.mpr ⟨okX9_settle, List.forall_mem_cons.mpr ⟨okX9_join, List.forall_mem_cons.mpr ⟨okX9_goThrough, List.forall_mem_cons.mpr ⟨okX9_heightOf, List.forall_mem_cons.mpr ⟨okX9_nodesOf, List.forall_mem_cons.mpr ⟨okX9_fail, List.forall_mem_cons.mpr ⟨okX9_note, List.forall_mem_cons.mpr ⟨okX9_keepBefore, List.forall_mem_cons.mpr ⟨okX9_sameKey, List.forall_mem_cons.mpr ⟨okX9_hadKey, List.forall_mem_cons.mpr ⟨okX9_hasKey, List.forall_mem_cons.mpr ⟨okX9_changed, List.forall_mem_cons.mpr ⟨okX9_sharesKey, List.forall_mem_cons.mpr ⟨okX9_clash, List.forall_mem_cons.mpr ⟨okX9_clashOf, List.forall_mem_cons.mpr ⟨okX9_begin, List.forall_mem_cons.mpr ⟨okX9_write, List.forall_mem_cons.mpr ⟨okX9_insert, List.forall_mem_cons.mpr ⟨okX9_isLocked, List.forall_mem_cons.mpr ⟨okX9_update, List.forall_mem_cons.mpr ⟨okX9_remove, List.forall_mem_cons.mpr ⟨okX9_records, List.forall_mem_cons.mpr ⟨okX9_undoOne, List.forall_mem_cons.mpr ⟨okX9_undo, List.forall_mem_cons.mpr ⟨okX9_undoTo, (fun _ h => absurd h List.not_mem_nil)⟩⟩⟩⟩⟩⟩⟩⟩⟩⟩⟩⟩⟩⟩⟩⟩⟩⟩⟩⟩⟩⟩⟩⟩⟩⟩⟩⟩⟩⟩
theorem okz_6 : ∀ p ∈ mT6.zip cd6, OKM p.1 p.2 := List.forall_mem_cons.mpr ⟨okX9_wouldClash, List.forall_mem_cons.mpr ⟨okX9_commit, List.forall_mem_cons.mpr ⟨okX9_abort, List.forall_mem_cons.mpr ⟨okX9_index, List.forall_mem_cons.mpr ⟨okX9_drop, List.forall_mem_cons.mpr ⟨okX9_pick, List.forall_mem_cons.mpr ⟨okX9_isBefore, List.forall_mem_cons.mpr ⟨okX9_scanStep, List.forall_mem_cons.mpr ⟨okX9_loadStep, List.forall_mem_cons.mpr ⟨okX9_catchStep, List.forall_mem_cons.mpr ⟨okX9_step, List.forall_mem_cons.mpr ⟨okX9_info, List.forall_mem_cons.mpr ⟨okX9_entry, List.forall_mem_cons.mpr ⟨okX9_where, List.forall_mem_cons.mpr ⟨okX9_seesAny, List.forall_mem_cons.mpr ⟨okX9_seen, List.forall_mem_cons.mpr ⟨okX9_fits, List.forall_mem_cons.mpr ⟨okX9_isInRange, List.forall_mem_cons.mpr ⟨okX9_rangeOf, List.forall_mem_cons.mpr ⟨okX9_costOf, List.forall_mem_cons.mpr ⟨okX9_hasSeenKey, List.forall_mem_cons.mpr ⟨okX9_isSeer, List.forall_mem_cons.mpr ⟨okX9_ask, List.forall_mem_cons.mpr ⟨okX9_answer, List.forall_mem_cons.mpr ⟨okX9_asked, List.forall_mem_cons.mpr ⟨okX9_cost, List.forall_mem_cons.mpr ⟨okX9_sees, List.forall_mem_cons.mpr ⟨okX9_field, List.forall_mem_cons.mpr ⟨okX9_writer, List.forall_mem_cons.mpr ⟨okX9_count, (fun _ h => absurd h List.not_mem_nil)⟩⟩⟩⟩⟩⟩⟩⟩⟩⟩⟩⟩⟩⟩⟩⟩⟩⟩⟩⟩⟩⟩⟩⟩⟩⟩⟩⟩⟩⟩
theorem okz_7 : ∀ p ∈ mT7.zip cd7, OKM p.1 p.2 := List.forall_mem_cons.mpr ⟨okX9_entriesOf, List.forall_mem_cons.mpr ⟨okX9_audit, List.forall_mem_cons.mpr ⟨okJ7_fill_53178, List.forall_mem_cons.mpr ⟨okX5_hasNoImage, List.forall_mem_cons.mpr ⟨okX7_haveOneKey, List.forall_mem_cons.mpr ⟨okL_law, (fun _ h => absurd h List.not_mem_nil)⟩⟩⟩⟩⟩⟩
theorem zipG {α β : Type} {l : List α} {r : List β} {i : Nat} {x : α} {y : β} (h1 : l[i]? = some x) (h2 : r[i]? = some y) : (x, y) ∈ l.zip r := by
  refine List.mem_of_getElem? (i := i) ?_
  rw [List.getElem?_zip_eq_some]
  exact ⟨h1, h2⟩
theorem okAll {f : Nat} {mm : MT} (h : mT f = some mm) : OKM mm (cd f) := by
  unfold mT at h
  unfold cd
  split at h
  · show OKM mm ((cd0[f % 30]?).getD [])
    cases hc : cd0[f % 30]? with
    | none => exact fun e he => absurd he List.not_mem_nil
    | some k => exact okz_0 (mm, k) (zipG h hc)
  · show OKM mm ((cd1[f % 30]?).getD [])
    cases hc : cd1[f % 30]? with
    | none => exact fun e he => absurd he List.not_mem_nil
    | some k => exact okz_1 (mm, k) (zipG h hc)
  · show OKM mm ((cd2[f % 30]?).getD [])
    cases hc : cd2[f % 30]? with
    | none => exact fun e he => absurd he List.not_mem_nil
    | some k => exact okz_2 (mm, k) (zipG h hc)
  · show OKM mm ((cd3[f % 30]?).getD [])
    cases hc : cd3[f % 30]? with
    | none => exact fun e he => absurd he List.not_mem_nil
    | some k => exact okz_3 (mm, k) (zipG h hc)
  · show OKM mm ((cd4[f % 30]?).getD [])
    cases hc : cd4[f % 30]? with
    | none => exact fun e he => absurd he List.not_mem_nil
    | some k => exact okz_4 (mm, k) (zipG h hc)
  · show OKM mm ((cd5[f % 30]?).getD [])
    cases hc : cd5[f % 30]? with
    | none => exact fun e he => absurd he List.not_mem_nil
    | some k => exact okz_5 (mm, k) (zipG h hc)
  · show OKM mm ((cd6[f % 30]?).getD [])
    cases hc : cd6[f % 30]? with
    | none => exact fun e he => absurd he List.not_mem_nil
    | some k => exact okz_6 (mm, k) (zipG h hc)
  · show OKM mm ((cd7[f % 30]?).getD [])
    cases hc : cd7[f % 30]? with
    | none => exact fun e he => absurd he List.not_mem_nil
    | some k => exact okz_7 (mm, k) (zipG h hc)
  · cases h
theorem mwAll {f : Nat} {mm : MT} (h : mT f = some mm) (hf : f < 215) : MW mm ∧ MX mm = true := by
  unfold mT at h
  split at h
  · exact ⟨mw_0 mm (List.mem_of_getElem? h), mx_0 mm (List.mem_of_getElem? h)⟩
  · exact ⟨mw_1 mm (List.mem_of_getElem? h), mx_1 mm (List.mem_of_getElem? h)⟩
  · exact ⟨mw_2 mm (List.mem_of_getElem? h), mx_2 mm (List.mem_of_getElem? h)⟩
  · exact ⟨mw_3 mm (List.mem_of_getElem? h), mx_3 mm (List.mem_of_getElem? h)⟩
  · exact ⟨mw_4 mm (List.mem_of_getElem? h), mx_4 mm (List.mem_of_getElem? h)⟩
  · exact ⟨mw_5 mm (List.mem_of_getElem? h), mx_5 mm (List.mem_of_getElem? h)⟩
  · exact ⟨mw_6 mm (List.mem_of_getElem? h), mx_6 mm (List.mem_of_getElem? h)⟩
  · rename_i hj
    have hm : mm ∈ mT7.take 5 := by
      refine List.mem_of_getElem? (i := f % 30) ?_
      rw [List.getElem?_take_of_lt (by omega)]
      exact h
    exact ⟨mw_7 mm hm, mx_7 mm hm⟩
  · cases h
