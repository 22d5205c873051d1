/-! an entry goes: what a node does with a child that has too few -/
def lnT {α : Type} (h : Nat) (D : List (Tr α h)) (j : Nat) : Nat := match D[j]? with
  | some c => (kyT h c).length
  | none => 0
def rotL {α : Type} (h b : Nat) (t : Tr α (h + 1)) : Tr α (h + 1) := match t.1[b]?, t.2[b]?, t.2[b + 1]? with
  | some x, some l, some r => match (kyT h l).getLast? with
    | some y => (t.1.take b ++ y :: t.1.drop (b + 1), t.2.take b ++ ([dlT h l, coT x h l r] ++ t.2.drop (b + 2)))
    | none => t
  | _, _, _ => t
def rotR {α : Type} (h b : Nat) (t : Tr α (h + 1)) : Tr α (h + 1) := match t.1[b]?, t.2[b]?, t.2[b + 1]? with
  | some x, some l, some r => match (kyT h r).head? with
    | some y => (t.1.take b ++ y :: t.1.drop (b + 1), t.2.take b ++ ([snT x h l r, tlT h r] ++ t.2.drop (b + 2)))
    | none => t
  | _, _, _ => t
def joi {α : Type} (h b : Nat) (t : Tr α (h + 1)) : Tr α (h + 1) := match t.1[b]?, t.2[b]?, t.2[b + 1]? with
  | some x, some l, some r => (t.1.take b ++ t.1.drop (b + 1), t.2.take b ++ ([joT x h l r] ++ t.2.drop (b + 2)))
  | _, _, _ => t
def mendT {α : Type} (h k : Nat) (t : Tr α (h + 1)) : Tr α (h + 1) :=
  if 2 ≤ lnT h t.2 k then t
  else if 0 < k ∧ 2 < lnT h t.2 (k - 1) then rotL h (k - 1) t
  else if k < t.1.length ∧ 2 < lnT h t.2 (k + 1) then rotR h k t
  else if 0 < k then joi h (k - 1) t else joi h k t
def delP {α : Type} (s : Nat → Nat) : (h : Nat) → Nat → Tr α h → Tr α h
  | 0, i, t => remL t (s i)
  | h + 1, i, t => match t.2[s i]? with
    | none => t
    | some u => mendT h (s i) (t.1, t.2.set (s i) (delP s h (i + 1) u))
theorem delP_s {α : Type} {s : Nat → Nat} {h i : Nat} {t : Tr α (h + 1)} {u : Tr α h} (hu : t.2[s i]? = some u) : delP s (h + 1) i t = mendT h (s i) (t.1, t.2.set (s i) (delP s h (i + 1) u)) := by
  conv => lhs; unfold delP
  rw [hu]
theorem sp1 {β : Type} {L : List β} {b : Nat} {x : β} (h : L[b]? = some x) : L = L.take b ++ x :: L.drop (b + 1) := by
  have hl := List.getElem?_eq_some_iff.mp h
  rw [← hl.2, List.getElem_cons_drop, List.take_append_drop]
theorem sp2 {β : Type} {L : List β} {b : Nat} {x y : β} (h : L[b]? = some x) (h2 : L[b + 1]? = some y) : L = L.take b ++ ([x, y] ++ L.drop (b + 2)) := by
  have a := sp1 h
  have hl := List.getElem?_eq_some_iff.mp h2
  have e : L.drop (b + 1) = y :: L.drop (b + 2) := by rw [← hl.2, List.getElem_cons_drop]
  rw [e] at a
  exact a
theorem set_sp {β : Type} {L : List β} {b : Nat} {x y : β} (h : L[b]? = some x) : L.set b y = L.take b ++ y :: L.drop (b + 1) := by
  have hl := List.getElem?_eq_some_iff.mp h
  rw [List.set_eq_take_append_cons_drop, if_pos hl.1]
theorem rem_sp {β : Type} {L : List β} {b : Nat} {x : β} (h : L[b]? = some x) : remL L (b + 1) = L.take b ++ ([x] ++ L.drop (b + 2)) := by
  unfold remL
  rw [List.take_add_one, h, List.append_assoc]
  rfl
theorem mkT_k {α : Type} {ns : Nat → List α × List Int} {g q b : Nat} {c : Int} (h : (ns q).2[b]? = some c) : (mkT ns (g + 1) q).2[b]? = some (mkT ns g c.toNat) := by
  show ((ns q).2.map (fun c => mkT ns g c.toNat))[b]? = _
  rw [List.getElem?_map, h]
  rfl
section MEND
variable {α : Type} {V : Nat → Prop} {ns ns2 : Nat → List α × List Int} {g q b l r : Nat} {x y : α} {z : Int}
theorem two_of (hw : wfT V ns (g + 1) q) (hnd : (fpT ns (g + 1) q).Nodup) (hl : (ns q).2[b]? = some (l : Int)) (hr : (ns q).2[b + 1]? = some (r : Int)) :
    wfT V ns g l ∧ wfT V ns g r ∧ (fpT ns g l ++ fpT ns g r).Nodup ∧ (q ∉ fpT ns g l) ∧ (q ∉ fpT ns g r) ∧ (∀ c, c ∈ (ns q).2.take b ∨ c ∈ (ns q).2.drop (b + 2) → ∀ m ∈ fpT ns g c.toNat, V m ∧ m ≠ q ∧ m ∉ fpT ns g l ∧ m ∉ fpT ns g r) ∧ (∀ m, m ∈ fpT ns g l ∨ m ∈ fpT ns g r → V m ∧ m ∈ fpT ns (g + 1) q) := by
  have h1 := nd_mid (sp2 hl hr) hnd
  have hlm := List.mem_of_getElem? hl
  have hrm := List.mem_of_getElem? hr
  have wl := (hw.2.2 _ hlm).2
  have wr := (hw.2.2 _ hrm).2
  rw [Int.toNat_natCast] at wl wr
  have n1 := h1.2.2
  simp only [List.flatMap_cons, List.flatMap_nil, List.append_nil, Int.toNat_natCast] at n1
  have il : ∀ m, m ∈ fpT ns g l → m ∈ fpT ns (g + 1) q := fun m hm => fpT_kid hlm (by rw [Int.toNat_natCast]; exact hm)
  have ir : ∀ m, m ∈ fpT ns g r → m ∈ fpT ns (g + 1) q := fun m hm => fpT_kid hrm (by rw [Int.toNat_natCast]; exact hm)
  refine ⟨wl, wr, n1, ?_, ?_, ?_, ?_⟩
  · have := h1.2.1 (l : Int) (by simp)
    rwa [Int.toNat_natCast] at this
  · have := h1.2.1 (r : Int) (by simp)
    rwa [Int.toNat_natCast] at this
  · intro c hc m hm
    have a := h1.1 c hc m hm
    have cm : c ∈ (ns q).2 := by
      rcases hc with h | h
      · exact List.mem_of_mem_take h
      · exact List.mem_of_mem_drop h
    refine ⟨wfT_V hw m (fpT_kid cm hm), a.1, ?_, ?_⟩
    · have := a.2 (l : Int) (by simp)
      rwa [Int.toNat_natCast] at this
    · have := a.2 (r : Int) (by simp)
      rwa [Int.toNat_natCast] at this
  · intro m hm
    rcases hm with h | h
    · exact ⟨wfT_V hw m (il m h), il m h⟩
    · exact ⟨wfT_V hw m (ir m h), ir m h⟩
set_option maxHeartbeats 1000000 in
theorem st_tfl (hw : wfT V ns (g + 1) q) (hnd : (fpT ns (g + 1) q).Nodup) (hx : (ns q).1[b]? = some x) (hl : (ns q).2[b]? = some (l : Int)) (hr : (ns q).2[b + 1]? = some (r : Int)) (hy : (ns l).1.getLast? = some y) (hz : (ns l).2.getLast? = some z)
    (e1 : ns2 q = ((ns q).1.set b y, (ns q).2)) (e2 : ns2 l = ((ns l).1.dropLast, (ns l).2.dropLast)) (e3 : ns2 r = (x :: (ns r).1, z :: (ns r).2)) (e4 : ∀ m, V m → m ≠ q → m ≠ l → m ≠ r → ns2 m = ns m) :
    mkT ns2 (g + 1) q = rotL g b (mkT ns (g + 1) q) ∧ wfT V ns2 (g + 1) q ∧ (fpT ns2 (g + 1) q ++ []).Perm (fpT ns (g + 1) q) := by
  obtain ⟨wl, wr, nd, ql, qr, ho, hi⟩ := two_of hw hnd hl hr
  have h1 : 1 ≤ (ns l).1.length := by
    cases hh : (ns l).1 with
    | nil => rw [hh] at hy; cases hy
    | cons a t => simp
  have hc : ∀ m, m ∈ fpT ns g l ∨ m ∈ fpT ns g r → m ≠ l → m ≠ r → ns2 m = ns m := by
    intro m hm h1 h2
    refine e4 m (hi m hm).1 (fun c => ?_) h1 h2
    subst c
    exact hm.elim ql qr
  obtain ⟨p1, p2, p3, p4, p5⟩ := pr_tfl wl wr nd hz h1 e2 e3 hc
  obtain ⟨m1, m2, m3⟩ := mkT_mid (V := V) (ns := ns) (ns2 := ns2) (g := g) (q := q) (go := []) (C1 := (ns q).2.take b) (C2 := (ns q).2.drop (b + 2)) (M := [(l : Int), (r : Int)]) (M' := [(l : Int), (r : Int)]) (sp2 hl hr) (by rw [e1]; exact sp2 hl hr)
    (fun c hc m hm => by
      have a := ho c hc m hm
      exact e4 m a.1 a.2.1 (fun z => a.2.2.1 (z ▸ fpT_self _ _ _)) (fun z => a.2.2.2 (z ▸ fpT_self _ _ _)))
    (by simpa using p5) hw (by rw [e1]; simp [hw.2.1]) (by
      intro c hc
      rcases List.mem_cons.mp hc with h | h
      · subst h; exact ⟨Int.natCast_nonneg _, by rw [Int.toNat_natCast]; exact p3⟩
      · have := List.mem_singleton.mp h
        subst this; exact ⟨Int.natCast_nonneg _, by rw [Int.toNat_natCast]; exact p4⟩)
  refine ⟨?_, m2, m3⟩
  rw [m1]
  unfold rotL
  have t1 : (mkT ns (g + 1) q).1 = (ns q).1 := rfl
  have t2 : (mkT ns (g + 1) q).2 = (ns q).2.map (fun c => mkT ns g c.toNat) := rfl
  rw [mkT_k hl, mkT_k hr, t1, hx, Int.toNat_natCast, Int.toNat_natCast]
  simp only []
  rw [kyT_mk, hy, t2, ← List.map_take, ← List.map_drop, e1]
  simp only [List.map_cons, List.map_nil, Int.toNat_natCast]
  rw [p1, p2, set_sp hx]
set_option maxHeartbeats 1000000 in
theorem st_tfr (hw : wfT V ns (g + 1) q) (hnd : (fpT ns (g + 1) q).Nodup) (hx : (ns q).1[b]? = some x) (hl : (ns q).2[b]? = some (l : Int)) (hr : (ns q).2[b + 1]? = some (r : Int)) (hy : (ns r).1.head? = some y) (hz : (ns r).2.head? = some z)
    (e1 : ns2 q = ((ns q).1.set b y, (ns q).2)) (e2 : ns2 l = ((ns l).1 ++ [x], (ns l).2 ++ [z])) (e3 : ns2 r = ((ns r).1.tail, (ns r).2.tail)) (e4 : ∀ m, V m → m ≠ q → m ≠ l → m ≠ r → ns2 m = ns m) :
    mkT ns2 (g + 1) q = rotR g b (mkT ns (g + 1) q) ∧ wfT V ns2 (g + 1) q ∧ (fpT ns2 (g + 1) q ++ []).Perm (fpT ns (g + 1) q) := by
  obtain ⟨wl, wr, nd, ql, qr, ho, hi⟩ := two_of hw hnd hl hr
  have h1 : 1 ≤ (ns r).1.length := by
    cases hh : (ns r).1 with
    | nil => rw [hh] at hy; cases hy
    | cons a t => simp
  have hc : ∀ m, m ∈ fpT ns g l ∨ m ∈ fpT ns g r → m ≠ l → m ≠ r → ns2 m = ns m := by
    intro m hm h1 h2
    refine e4 m (hi m hm).1 (fun c => ?_) h1 h2
    subst c
    exact hm.elim ql qr
  obtain ⟨p1, p2, p3, p4, p5⟩ := pr_tfr wl wr nd hz h1 e2 e3 hc
  obtain ⟨m1, m2, m3⟩ := mkT_mid (V := V) (ns := ns) (ns2 := ns2) (g := g) (q := q) (go := []) (C1 := (ns q).2.take b) (C2 := (ns q).2.drop (b + 2)) (M := [(l : Int), (r : Int)]) (M' := [(l : Int), (r : Int)]) (sp2 hl hr) (by rw [e1]; exact sp2 hl hr)
    (fun c hc m hm => by
      have a := ho c hc m hm
      exact e4 m a.1 a.2.1 (fun z => a.2.2.1 (z ▸ fpT_self _ _ _)) (fun z => a.2.2.2 (z ▸ fpT_self _ _ _)))
    (by simpa using p5) hw (by rw [e1]; simp [hw.2.1]) (by
      intro c hc
      rcases List.mem_cons.mp hc with h | h
      · subst h; exact ⟨Int.natCast_nonneg _, by rw [Int.toNat_natCast]; exact p3⟩
      · have := List.mem_singleton.mp h
        subst this; exact ⟨Int.natCast_nonneg _, by rw [Int.toNat_natCast]; exact p4⟩)
  refine ⟨?_, m2, m3⟩
  rw [m1]
  unfold rotR
  have t1 : (mkT ns (g + 1) q).1 = (ns q).1 := rfl
  have t2 : (mkT ns (g + 1) q).2 = (ns q).2.map (fun c => mkT ns g c.toNat) := rfl
  rw [mkT_k hl, mkT_k hr, t1, hx, Int.toNat_natCast, Int.toNat_natCast]
  simp only []
  rw [kyT_mk, hy, t2, ← List.map_take, ← List.map_drop, e1]
  simp only [List.map_cons, List.map_nil, Int.toNat_natCast]
  rw [p1, p2, set_sp hx]
set_option maxHeartbeats 1000000 in
theorem st_joi (hw : wfT V ns (g + 1) q) (hnd : (fpT ns (g + 1) q).Nodup) (hx : (ns q).1[b]? = some x) (hl : (ns q).2[b]? = some (l : Int)) (hr : (ns q).2[b + 1]? = some (r : Int))
    (e1 : ns2 q = (remL (ns q).1 b, remL (ns q).2 (b + 1))) (e2 : ns2 l = ((ns l).1 ++ x :: (ns r).1, (ns l).2 ++ (ns r).2)) (e4 : ∀ m, V m → m ≠ q → m ≠ l → m ≠ r → ns2 m = ns m) :
    mkT ns2 (g + 1) q = joi g b (mkT ns (g + 1) q) ∧ wfT V ns2 (g + 1) q ∧ (fpT ns2 (g + 1) q ++ [r]).Perm (fpT ns (g + 1) q) := by
  obtain ⟨wl, wr, nd, ql, qr, ho, hi⟩ := two_of hw hnd hl hr
  have hc : ∀ m, m ∈ fpT ns g l ∨ m ∈ fpT ns g r → m ≠ l → m ≠ r → ns2 m = ns m := by
    intro m hm h1 h2
    refine e4 m (hi m hm).1 (fun c => ?_) h1 h2
    subst c
    exact hm.elim ql qr
  obtain ⟨p1, p3, p5⟩ := pr_join wl wr nd e2 hc
  have bl := (List.getElem?_eq_some_iff.mp hx).1
  have bl2 := (List.getElem?_eq_some_iff.mp hr).1
  obtain ⟨m1, m2, m3⟩ := mkT_mid (V := V) (ns := ns) (ns2 := ns2) (g := g) (q := q) (go := [r]) (C1 := (ns q).2.take b) (C2 := (ns q).2.drop (b + 2)) (M := [(l : Int), (r : Int)]) (M' := [(l : Int)]) (sp2 hl hr) (by rw [e1]; exact rem_sp hl)
    (fun c hc m hm => by
      have a := ho c hc m hm
      exact e4 m a.1 a.2.1 (fun z => a.2.2.1 (z ▸ fpT_self _ _ _)) (fun z => a.2.2.2 (z ▸ fpT_self _ _ _)))
    (by simpa using p5) hw (by rw [e1]; show (remL _ _).length = (remL _ _).length + 1; rw [remL_len _ bl, remL_len _ bl2, hw.2.1]; omega) (by
      intro c hc
      have := List.mem_singleton.mp hc
      subst this; exact ⟨Int.natCast_nonneg _, by rw [Int.toNat_natCast]; exact p3⟩)
  refine ⟨?_, m2, m3⟩
  rw [m1]
  unfold joi
  have t1 : (mkT ns (g + 1) q).1 = (ns q).1 := rfl
  have t2 : (mkT ns (g + 1) q).2 = (ns q).2.map (fun c => mkT ns g c.toNat) := rfl
  rw [mkT_k hl, mkT_k hr, t1, hx, Int.toNat_natCast, Int.toNat_natCast]
  simp only []
  rw [t2, ← List.map_take, ← List.map_drop, e1]
  simp only [List.map_cons, List.map_nil, Int.toNat_natCast]
  rw [p1]
  rfl
end MEND
def InvD {α : Type} (V : Nat → Prop) (ns0 ns : Nat → List α × List Int) (s : Nat → Nat) (d n0 i : Nat) (go : List Nat) : Prop :=
  (∀ m, V m → m ∉ fpT ns0 (d - i) (pthT ns0 s n0 i) → ns m = ns0 m) ∧
  mkT ns (d - i) (pthT ns0 s n0 i) = delP s (d - i) i (mkT ns0 (d - i) (pthT ns0 s n0 i)) ∧
  wfT V ns (d - i) (pthT ns0 s n0 i) ∧ (fpT ns (d - i) (pthT ns0 s n0 i) ++ go).Perm (fpT ns0 (d - i) (pthT ns0 s n0 i))
section DEL
variable {α : Type} {V : Nat → Prop} {ns0 ns ns2 : Nat → List α × List Int} {s : Nat → Nat} {d n0 i g : Nat} {go go2 : List Nat}
theorem remL_rep {n k : Nat} {x : Int} (h : k < n) : remL (List.replicate n x) k = List.replicate (n - 1) x := by
  unfold remL
  rw [List.take_replicate, List.drop_replicate, List.replicate_append_replicate]
  congr 1
  omega
theorem invD_start (hp : PthOK V ns0 s d n0) (hs : s d < (ns0 (pthT ns0 s n0 d)).1.length) (h1 : ns (pthT ns0 s n0 d) = (remL (ns0 (pthT ns0 s n0 d)).1 (s d), remL (ns0 (pthT ns0 s n0 d)).2 (s d + 1))) (h2 : ∀ m, V m → m ≠ pthT ns0 s n0 d → ns m = ns0 m) : InvD V ns0 ns s d n0 d [] := by
  obtain ⟨w, -⟩ := pth_wf hp d (Nat.le_refl d)
  rw [Nat.sub_self] at w
  unfold InvD
  rw [Nat.sub_self]
  refine ⟨fun m hm hj => h2 m hm (fun z => hj (z ▸ fpT_self _ _ _)), ?_, ?_, ?_⟩
  · show (ns _).1 = remL (ns0 _).1 (s d)
    rw [h1]
  · refine ⟨w.1, ?_⟩
    rw [h1]
    show remL (ns0 _).2 (s d + 1) = List.replicate ((remL (ns0 _).1 (s d)).length + 1) (-1)
    rw [w.2, remL_len _ hs, remL_rep (by omega)]
    congr 1
    omega
  · show ([_] ++ []).Perm [_]
    exact List.Perm.refl _
/-- the level's node once its child is settled below -/
theorem invD_mid (hp : PthOK V ns0 s d n0) (hd : d = i + 1 + g) (hI : InvD V ns0 ns s d n0 (i + 1) go) :
    ns (pthT ns0 s n0 i) = ns0 (pthT ns0 s n0 i) ∧ mkT ns (g + 1) (pthT ns0 s n0 i) = (((ns0 (pthT ns0 s n0 i)).1, (mkT ns0 (g + 1) (pthT ns0 s n0 i)).2.set (s i) (delP s g (i + 1) (mkT ns0 g (pthT ns0 s n0 (i + 1))))) : Tr α (g + 1)) ∧ wfT V ns (g + 1) (pthT ns0 s n0 i) ∧ (fpT ns (g + 1) (pthT ns0 s n0 i) ++ go).Perm (fpT ns0 (g + 1) (pthT ns0 s n0 i)) := by
  obtain ⟨i1, i2, i3, i4⟩ := hI
  obtain ⟨w, wn⟩ := pth_wf hp i (by omega)
  have hg : d - i = g + 1 := by omega
  have hg2 : d - (i + 1) = g := by omega
  obtain ⟨c, c0, hc, he, hmem⟩ := pth_kid hp (i := i) (by omega)
  rw [hg2, he] at i1 i2 i3 i4
  rw [hg] at w wn
  have hq := fp_nd_kid wn hmem
  have o1 : ns (pthT ns0 s n0 i) = ns0 (pthT ns0 s n0 i) := i1 _ w.1 hq.2
  have o2 : ∀ k c', (ns0 (pthT ns0 s n0 i)).2[k]? = some c' → k ≠ s i → ∀ m ∈ fpT ns0 g c'.toNat, ns m = ns0 m := by
    intro k c' hk hne m hm
    refine i1 m (wfT_V w m (fpT_kid (List.mem_of_getElem? hk) hm)) (fun z => ?_)
    exact nd_flat (List.nodup_cons.mp wn).2 hk hc hne m hm z
  refine ⟨o1, ?_, wfT_kid w o1 hc o2 i3, ?_⟩
  · rw [mkT_kid o1 hc o2, i2, he]
    rfl
  · have hsp : (ns0 (pthT ns0 s n0 i)).2 = (ns0 (pthT ns0 s n0 i)).2.take (s i) ++ ([c] ++ (ns0 (pthT ns0 s n0 i)).2.drop (s i + 1)) := sp1 hc
    refine (mkT_mid (V := V) (ns := ns0) (ns2 := ns) (g := g) (go := go) (M := [c]) (M' := [c]) hsp (by rw [o1]; exact hsp) ?_ (by simpa using i4) w (by rw [o1]; exact w.2.1) ?_).2.2
    · intro c' hc' m hm
      have := (nd_mid hsp wn).1 c' hc' m hm
      have cm : c' ∈ (ns0 (pthT ns0 s n0 i)).2 := by
        rcases hc' with h | h
        · exact List.mem_of_mem_take h
        · exact List.mem_of_mem_drop h
      exact i1 m (wfT_V w m (fpT_kid cm hm)) (this.2 c (List.mem_singleton.mpr rfl))
    · intro c' hc'
      have := List.mem_singleton.mp hc'
      subst this
      exact ⟨c0, i3⟩
theorem invD_step (hp : PthOK V ns0 s d n0) (hd : d = i + 1 + g) (hI : InvD V ns0 ns s d n0 (i + 1) go)
    (h1 : mkT ns2 (g + 1) (pthT ns0 s n0 i) = mendT g (s i) (mkT ns (g + 1) (pthT ns0 s n0 i))) (h2 : wfT V ns2 (g + 1) (pthT ns0 s n0 i)) (h3 : (fpT ns2 (g + 1) (pthT ns0 s n0 i) ++ go2).Perm (fpT ns (g + 1) (pthT ns0 s n0 i))) (h4 : ∀ m, V m → m ∉ fpT ns (g + 1) (pthT ns0 s n0 i) → ns2 m = ns m) : InvD V ns0 ns2 s d n0 i (go2 ++ go) := by
  obtain ⟨m1, m2, m3, m4⟩ := invD_mid hp hd hI
  have hg : d - i = g + 1 := by omega
  obtain ⟨c, c0, hc, he, hmem⟩ := pth_kid hp (i := i) (by omega)
  unfold InvD
  rw [hg]
  refine ⟨?_, ?_, h2, ?_⟩
  · intro m hm hn
    have a : m ∉ fpT ns (g + 1) (pthT ns0 s n0 i) := fun z => hn (m4.mem_iff.mp (List.mem_append_left _ z))
    rw [h4 m hm a]
    refine hI.1 m hm (fun z => hn ?_)
    rw [show d - (i + 1) = g by omega, he] at z
    exact fpT_kid hmem z
  · rw [h1, m2]
    show _ = delP s (g + 1) i (mkT ns0 (g + 1) (pthT ns0 s n0 i))
    rw [delP_s (mkT_k hc), he]
    rfl
  · rw [← List.append_assoc]
    exact (h3.append_right go).trans m4
theorem invD_keep (hp : PthOK V ns0 s d n0) (hd : d = i + 1 + g) (hI : InvD V ns0 ns s d n0 (i + 1) go) (h2 : 2 ≤ (ns (pthT ns0 s n0 (i + 1))).1.length) : InvD V ns0 ns s d n0 i go := by
  have hI0 := hI
  obtain ⟨m1, m2, m3, m4⟩ := invD_mid hp hd hI
  obtain ⟨c, c0, hc, he, hmem⟩ := pth_kid hp (i := i) (by omega)
  refine invD_step (go2 := []) hp hd hI ?_ m3 (by rw [List.append_nil]) (fun _ _ _ => rfl)
  unfold mendT
  rw [if_pos]
  unfold lnT
  have : (mkT ns (g + 1) (pthT ns0 s n0 i)).2[s i]? = some (mkT ns g c.toNat) := mkT_k (by rw [m1]; exact hc)
  rw [this]
  show 2 ≤ (kyT g (mkT ns g c.toNat)).length
  rw [kyT_mk, ← he]
  exact h2
end DEL
