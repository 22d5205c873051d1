/-! INVARIANTS: telling and stepping -/
def kI (k : Ky) (m : Im) (p : Nat) : Option E := m.map (fun x => kE k x (p : Int))
def EnP (k : Ky) (w : Rw) (p : Nat) (e : E) : Prop := e ∈ enA k w p ∨ e ∈ enB k w p
theorem sk_iff {k : Ky} {x : F4} {b : Im} {p : Nat} : sk k (some x) b = true ↔ kI k b p = some (kE k x p) := by
  cases b with
  | none => exact ⟨fun h => absurd (show false = true from h) (by decide), fun h => absurd (show (none : Option E) = some _ from h) (by simp)⟩
  | some y =>
    show decide (kE k x 0 = kE k y 0) = true ↔ some (kE k y p) = some (kE k x p)
    rw [decide_eq_true_eq, Option.some_inj, kE_p (p := (p : Int))]
    exact eq_comm
theorem enP_iff {k : Ky} {w : Rw} {p : Nat} {e : E} : EnP k w p e ↔ (kI k (w.1 p) p = some e ∨ kI k (w.2.1 p) p = some e) := by
  unfold EnP enA enB
  cases h1 : w.1 p with
  | none =>
    cases h2 : w.2.1 p with
    | none => simp [kI]
    | some y => simp [kI, sk_n2, eq_comm]
  | some x =>
    cases h2 : w.2.1 p with
    | none => simp [kI, eq_comm]
    | some y =>
      have s := sk_iff (k := k) (x := y) (b := some x) (p := p)
      by_cases c : sk k (some y) (some x) = true
      · have e1 : kE k x p = kE k y p := Option.some_inj.mp (s.mp c)
        simp [kI, c, e1, eq_comm]
      · simp [kI, c, eq_comm]
theorem nwE_iff {k : Ky} {a b c : Im} {p : Nat} {e : E} : nwE k a b c p = some e ↔ (kI k a p = some e ∧ ¬ kI k b p = some e ∧ ¬ kI k c p = some e) := by
  cases a with
  | none => simp [nwE, kI]
  | some x =>
    have s1 := sk_iff (k := k) (x := x) (b := b) (p := p)
    have s2 := sk_iff (k := k) (x := x) (b := c) (p := p)
    show (if (sk k (some x) b || sk k (some x) c) = true then none else some (kE k x p)) = some e ↔ (some (kE k x p) = some e ∧ _)
    by_cases hx : kE k x p = e
    · subst hx
      by_cases c1 : sk k (some x) b = true
      · simp [c1, s1.mp c1]
      · by_cases c2 : sk k (some x) c = true
        · simp [c2, s2.mp c2]
        · have n1 : ¬ kI k b p = some (kE k x p) := fun h => c1 (s1.mpr h)
          have n2 : ¬ kI k c p = some (kE k x p) := fun h => c2 (s2.mpr h)
          simp [c1, c2, n1, n2]
    · have : ¬ some (kE k x p) = some e := fun h => hx (Option.some_inj.mp h)
      constructor
      · intro h
        split at h
        · cases h
        · exact absurd h this
      · intro h; exact absurd h.1 this
theorem kI_pl {k : Ky} {m : Im} {p : Nat} {e : E} (h : kI k m p = some e) : e.2.2.2 = (p : Int) := by
  cases m with
  | none => cases h
  | some x =>
    have : kE k x p = e := Option.some_inj.mp h
    rw [← this]
    rfl
theorem enP_pl {k : Ky} {w : Rw} {p : Nat} {e : E} (h : EnP k w p e) : e.2.2.2 = (p : Int) := (enP_iff.mp h).elim kI_pl kI_pl
theorem nwE_pl {k : Ky} {a b c : Im} {p : Nat} {e : E} (h : nwE k a b c p = some e) : e.2.2.2 = (p : Int) := kI_pl (nwE_iff.mp h).1
theorem enP_cg {k : Ky} {w w' : Rw} {p : Nat} (h1 : w'.1 p = w.1 p) (h2 : w'.2.1 p = w.2.1 p) (e : E) : EnP k w' p e ↔ EnP k w p e := by
  rw [enP_iff, enP_iff, h1, h2]
def ents (k : Ky) (w : Rw) (e : E) : Prop := ∃ p, p < 320 ∧ EnP k w p e
theorem fl_len {f : Nat → List E} {c : Nat} (h : ∀ p, (f p).length ≤ c) : ∀ n, ((List.range n).flatMap f).length ≤ c * n
  | 0 => by simp
  | n + 1 => by
    have := fl_len h n
    rw [List.range_succ, List.flatMap_append, List.length_append]
    have h2 := h n
    have h3 : (List.flatMap f [n]).length = (f n).length := by simp
    rw [h3, Nat.mul_succ]
    omega
theorem ents_sz (k : Ky) (w : Rw) (P : Nat) : szL (16 * P) (fun e => e.2.2.2 < 8 * (P : Int) ∧ ents k w e) := by
  refine ⟨(List.range (8 * P)).flatMap (fun p => enA k w p ++ enB k w p), ?_, fun e ⟨h1, p, h2, h3⟩ => ?_⟩
  · have := fl_len (f := fun p => enA k w p ++ enB k w p) (c := 2) (fun p => by
      have h1 := enA_le k w p
      have h2 := enB_le k w p
      rw [List.length_append]; omega) (8 * P)
    omega
  · have := enP_pl h3
    exact List.mem_flatMap.mpr ⟨p, List.mem_range.mpr (by omega), List.mem_append.mpr h3⟩
theorem xT1_k (c : Int) (o : Option E) (x : Ix) : xK (xT1 c o x) = xK x ∧ xU (xT1 c o x) = xU x ∧ xP (xT1 c o x) = xP x := by
  cases o with
  | none => exact ⟨rfl, rfl, rfl⟩
  | some e => exact xTk_k c e x
theorem ci_tell {w w' : Rw} {p : Nat} {rep : Im} {x : Ix} {k : Ky} (hk : xK x = k) (hp : p < 320) (h : CIQ x (ents k w)) (ho : ∀ q, q ≠ p → w'.1 q = w.1 q ∧ w'.2.1 q = w.2.1 q)
    (hd : ∀ e, EnP k w' p e ↔ ((EnP k w p e ∨ nwE k (w'.2.1 p) rep (w'.1 p) p = some e) ∧ ¬ nwE k rep (w'.2.1 p) (w'.1 p) p = some e)) : CIQ (xTell w' rep p x) (ents k w') := by
  have hU := h.1
  unfold xTell
  rw [if_neg (by omega), hk]
  obtain ⟨co, hco⟩ : ∃ co, co = nwE k (w'.2.1 p) rep (w'.1 p) p := ⟨_, rfl⟩
  obtain ⟨go, hgo⟩ : ∃ go, go = nwE k rep (w'.2.1 p) (w'.1 p) p := ⟨_, rfl⟩
  rw [← hco, ← hgo] at hd ⊢
  have pc : ∀ e, co = some e → e.2.2.2 = (p : Int) := fun e he => nwE_pl (hco.symm.trans he)
  have pg : ∀ e, go = some e → e.2.2.2 = (p : Int) := fun e he => nwE_pl (hgo.symm.trans he)
  have all : ∀ e, ((ents k w e ∨ co = some e) ∧ ¬ go = some e) ↔ ents k w' e := fun e => by
    constructor
    · rintro ⟨⟨q, q3, he⟩ | he, hn⟩
      · by_cases c : q = p
        · subst c; exact ⟨q, q3, (hd e).mpr ⟨Or.inl he, hn⟩⟩
        · exact ⟨q, q3, (enP_cg (ho q c).1 (ho q c).2 e).mpr he⟩
      · exact ⟨p, hp, (hd e).mpr ⟨Or.inr he, hn⟩⟩
    · rintro ⟨q, q3, he⟩
      by_cases c : q = p
      · subst c
        obtain ⟨h1, h2⟩ := (hd e).mp he
        exact ⟨h1.elim (fun h => Or.inl ⟨q, q3, h⟩) Or.inr, h2⟩
      · refine ⟨Or.inl ⟨q, q3, (enP_cg (ho q c).1 (ho q c).2 e).mp he⟩, fun hg => ?_⟩
        have h1 := enP_pl he
        have h2 := pg e hg
        omega
  have s0 := ents_sz k w (xP x)
  have h1 : CIQ (xT1 1 co x) (fun e => ents k w e ∨ co = some e) := by
    cases co with
    | none => exact ciq_cg h (fun e => ⟨Or.inl, fun q => q.elim id (fun z => by cases z)⟩)
    | some a =>
      refine ciq_cg (ciq_tk (c := 1) (a := a) h ?_ (by have := pc a rfl; omega)) (fun e => ?_)
      · exact szL_add (l := [a]) s0 (fun e ⟨q1, q2⟩ => by
          have q2 : ents k w e ∨ e = a := q2
          rcases q2 with q | q
          · exact Or.inl ⟨q1, q⟩
          · exact Or.inr (by rw [q]; exact List.mem_singleton_self a))
      · show (ents k w e ∨ e = a) ↔ (ents k w e ∨ some a = some e)
        rw [Option.some_inj]
        exact or_congr_right eq_comm
  have k1 := xT1_k 1 co x
  cases go with
  | none => exact ciq_cg h1 (fun e => ⟨fun q => (all e).mp ⟨q, by simp⟩, fun q => ((all e).mpr q).1⟩)
  | some b =>
    refine ciq_cg (ciq_tk (c := 0) (a := b) h1 ?_ (by have := pg b rfl; omega)) (fun e => ?_)
    · rw [k1.2.2]
      refine szL_sub (ents_sz k w' (xP x)) (by omega) (fun e ⟨q1, q2⟩ => ⟨q1, (all e).mp ?_⟩)
      have q2 : (ents k w e ∨ co = some e) ∧ e ≠ b := q2
      exact ⟨q2.1, fun z => q2.2 (Option.some_inj.mp z).symm⟩
    · refine Iff.trans ?_ (all e)
      show ((ents k w e ∨ co = some e) ∧ e ≠ b) ↔ _
      rw [Option.some_inj]
      exact and_congr_right' ⟨fun q z => q z.symm, fun q z => q z.symm⟩
/-- a write, an undo -/
theorem ci_write {w : Rw} {p : Nat} {m : Im} {v : Int} {x : Ix} {k : Ky} (hk : xK x = k) (hp : p < 320) (h : CIQ x (ents k w)) : CIQ (xTell (wRow w p m v) (w.2.1 p) p x) (ents k (wRow w p m v)) := by
  refine ci_tell hk hp h (fun q hq => ⟨rfl, upN_o hq⟩) (fun e => ?_)
  rw [enP_iff, enP_iff, nwE_iff, nwE_iff]
  have e1 : (wRow w p m v).1 p = w.1 p := rfl
  have e2 : (wRow w p m v).2.1 p = m := upN_s
  rw [e1, e2]
  by_cases a : kI k (w.1 p) p = some e <;> by_cases b : kI k (w.2.1 p) p = some e <;> by_cases c : kI k m p = some e <;> simp [a, b, c]
/-- a place is committed -/
theorem ci_com {w : Rw} {p : Nat} {v : Int} {x : Ix} {k : Ky} (hk : xK x = k) (hp : p < 320) (h : CIQ x (ents k w)) : CIQ (xTell (upN w.1 p (w.2.1 p), w.2.1, upN w.2.2 p v) (w.1 p) p x) (ents k (upN w.1 p (w.2.1 p), w.2.1, upN w.2.2 p v)) := by
  refine ci_tell hk hp h (fun q hq => ⟨upN_o hq, rfl⟩) (fun e => ?_)
  rw [enP_iff, enP_iff, nwE_iff, nwE_iff]
  have e1 : ((upN w.1 p (w.2.1 p), w.2.1, upN w.2.2 p v) : Rw).1 p = w.2.1 p := upN_s
  have e2 : ((upN w.1 p (w.2.1 p), w.2.1, upN w.2.2 p v) : Rw).2.1 p = w.2.1 p := rfl
  rw [e1, e2]
  by_cases a : kI k (w.1 p) p = some e <;> by_cases b : kI k (w.2.1 p) p = some e <;> simp [a, b]
theorem insA_mem (y : E) : ∀ (es G : List E), y ∈ insA G es ↔ y ∈ G ∨ y ∈ es
  | [], G => by show y ∈ G ↔ _; simp
  | e :: es, G => by
    show y ∈ insA (insG e G) es ↔ _
    rw [insA_mem y es (insG e G), insG_mem e G y, List.mem_cons]
    constructor
    · rintro ((h | h) | h)
      · exact Or.inr (Or.inl h)
      · exact Or.inl h
      · exact Or.inr (Or.inr h)
    · rintro (h | h | h)
      · exact Or.inl (Or.inr h)
      · exact Or.inl (Or.inl h)
      · exact Or.inr h
theorem insA_len : ∀ (es G : List E), (insA G es).length = G.length + es.length
  | [], G => rfl
  | e :: es, G => by
    show (insA (insG e G) es).length = _
    rw [insA_len es, insG_len, List.length_cons]
    omega
theorem insA_srt : ∀ {es G : List E}, srtG G → srtG (insA G es)
  | [], _, h => h
  | e :: es, G, h => insA_srt (es := es) (G := insG e G) (insG_srt h)
theorem scG_all {k : Ky} {w : Rw} : ∀ (d p : Nat) (G : List E), (∀ y, y ∈ scG k w d p G ↔ (y ∈ G ∨ ∃ q, p ≤ q ∧ q < p + d ∧ EnP k w q y)) ∧ (scG k w d p G).length ≤ G.length + 2 * d ∧ (srtG G → srtG (scG k w d p G))
  | 0, p, G => ⟨fun y => ⟨Or.inl, fun h => h.elim id (fun ⟨q, h1, h2, _⟩ => absurd h2 (by omega))⟩, Nat.le_refl _, id⟩
  | d + 1, p, G => by
    obtain ⟨h1, h2, h3⟩ := scG_all (k := k) (w := w) d (p + 1) (insA (insA G (enA k w p)) (enB k w p))
    refine ⟨fun y => ?_, ?_, fun h => h3 (insA_srt (insA_srt h))⟩
    · refine (h1 y).trans ?_
      rw [insA_mem, insA_mem]
      constructor
      · rintro (((h | h) | h) | ⟨q, q1, q2, h⟩)
        · exact Or.inl h
        · exact Or.inr ⟨p, Nat.le_refl _, by omega, Or.inl h⟩
        · exact Or.inr ⟨p, Nat.le_refl _, by omega, Or.inr h⟩
        · exact Or.inr ⟨q, by omega, by omega, h⟩
      · rintro (h | ⟨q, q1, q2, h⟩)
        · exact Or.inl (Or.inl (Or.inl h))
        · by_cases c : q = p
          · subst c
            rcases h with h | h
            · exact Or.inl (Or.inl (Or.inr h))
            · exact Or.inl (Or.inr h)
          · exact Or.inr ⟨q, by omega, by omega, h⟩
    · have l1 := insA_len (enB k w p) (insA G (enA k w p))
      have l2 := insA_len (enA k w p) G
      have e1 := enA_le k w p
      have e2 := enB_le k w p
      show (scG k w d (p + 1) (insA (insA G (enA k w p)) (enB k w p))).length ≤ _
      omega
theorem ci_scan {w : Rw} {x : Ix} {k : Ky} (hk : xK x = k) (hS : xS x = 1) (h : CIQ x (ents k w)) : CIQ (xScan w x) (ents k w) := by
  obtain ⟨a1, a2, a3, a4, a5, a6, a7, a8, a9, a10, a11⟩ := h
  obtain ⟨s1, s2, s3⟩ := scG_all (k := k) (w := w) 8 (8 * xP x) (xG x)
  obtain ⟨p1, p2, p3⟩ := a11 (by omega)
  have b5 := a5 hS
  have b6 := a6 (Or.inl hS)
  have eS : xS (xScan w x) = if xP x + 1 < 40 then 1 else 2 := by rw [← hS]; rfl
  have eP : xP (xScan w x) = xP x + 1 := rfl
  have eG : xG (xScan w x) = scG k w 8 (8 * xP x) (xG x) := by rw [← hk]; rfl
  have eL : xL (xScan w x) = xL x := rfl
  have eT : xT (xScan w x) = xT x := rfl
  have S12 : xS (xScan w x) = 1 ∨ xS (xScan w x) = 2 := by rw [eS]; split; exact Or.inl rfl; exact Or.inr rfl
  have nw : ∀ e, inTG (xScan w x) e ↔ (inTG x e ∨ ∃ q, 8 * xP x ≤ q ∧ q < 8 * xP x + 8 ∧ EnP k w q e) := fun e => by
    unfold inTG
    rw [eG, eT, s1 e, or_assoc]
  have off : ∀ c a, (c, a) ∈ xL x → ¬ ∃ q, 8 * xP x ≤ q ∧ q < 8 * xP x + 8 ∧ EnP k w q a := fun c a hm ⟨q, q1, q2, q3⟩ => by
    have h1 := p3 c a hm
    have h2 := enP_pl q3
    omega
  refine ⟨a1, a2, a3, ⟨by omega, by omega, by rw [eP]; omega⟩, fun z => ?_, fun _ => ?_, fun z1 z2 => ?_, fun z => absurd z (by omega), fun z => absurd z (by omega), fun z => absurd z (by omega), fun _ => ⟨fun e => ?_, fun n => ?_, fun c e hm => ?_⟩⟩
  · rw [eG, eP]
    refine ⟨?_, s3 b5.2⟩
    rw [eS] at z
    by_cases c : xP x + 1 < 40
    · exact c
    · rw [if_neg c] at z; exact absurd z (by decide)
  · rw [eG, eT, eP]; omega
  · rw [eP]
    rw [eS] at z1
    by_cases c : xP x + 1 < 40
    · rw [if_pos c] at z1; exact absurd z1 (by decide)
    · omega
  · rw [eL, eP]
    refine ((rp_cg nw e).trans (rp_new off e)).trans ?_
    rw [p1 e]
    constructor
    · rintro (⟨q1, q2⟩ | ⟨q, q1, q2, q3⟩)
      · exact ⟨by omega, q2⟩
      · have := enP_pl q3
        exact ⟨by omega, q, by omega, q3⟩
    · rintro ⟨q1, q, q2, q3⟩
      have := enP_pl q3
      by_cases c : q < 8 * xP x
      · exact Or.inl ⟨by omega, q, q2, q3⟩
      · exact Or.inr ⟨q, by omega, by omega, q3⟩
  · rw [eL, eP]
    have len : ((List.range 8).flatMap (fun j => enA k w (8 * xP x + j) ++ enB k w (8 * xP x + j))).length ≤ 2 * 8 := fl_len (fun p => by
      have h1 := enA_le k w (8 * xP x + p)
      have h2 := enB_le k w (8 * xP x + p)
      rw [List.length_append]; omega) 8
    refine szL_sub (szL_add (l := (List.range 8).flatMap (fun j => enA k w (8 * xP x + j) ++ enB k w (8 * xP x + j))) (p2 n) (R := rp (inTG (xScan w x)) ((xL x).take n)) (fun e he => ?_)) (by omega) (fun e he => he)
    rcases ((rp_cg nw e).trans (rp_new (fun c a hm => off c a (List.mem_of_mem_take hm)) e)).mp he with h | ⟨q, q1, q2, q3⟩
    · exact Or.inl h
    · exact Or.inr (List.mem_flatMap.mpr ⟨q - 8 * xP x, List.mem_range.mpr (by omega), by rw [show 8 * xP x + (q - 8 * xP x) = q by omega]; exact List.mem_append.mpr q3⟩)
  · rw [eP]
    have := p3 c e hm
    omega
theorem ci_ld {D : E → Prop} : ∀ (n : Nat) {x : Ix}, xS x = 2 → CIQ x D → CIQ (ld n x) D ∧ xK (ld n x) = xK x ∧ xQ (ld n x) = xQ x ∧ ¬ xS (ld n x) = 4
  | 0, x, h2, h => ⟨h, rfl, rfl, by show ¬ xS x = 4; omega⟩
  | n + 1, x, h2, h => by
    have h0 := h
    obtain ⟨a1, a2, a3, a4, a5, a6, a7, a8, a9, a10, a11⟩ := h
    obtain ⟨p1, p2, p3⟩ := a11 (by omega)
    cases hG : xG x with
    | nil =>
      have e : ld (n + 1) x = setS x 3 := by show (match xG x with | [] => setS x 3 | e :: G => _) = _; rw [hG]
      rw [e]
      refine ⟨⟨a1, a2, a3, ⟨by show (1 : Int) ≤ 3; decide, by show (3 : Int) ≤ 5; decide, a4.2.2⟩, fun z => absurd (show (3 : Int) = 1 from z) (by decide), fun z => absurd (show (3 : Int) = 1 ∨ (3 : Int) = 2 from z) (by decide), fun _ _ => a7 (by omega) (by omega), fun _ => hG, fun z => absurd (show (4 : Int) ≤ 3 from z) (by decide), fun z => absurd (show (3 : Int) = 5 from z) (by decide), fun _ => ⟨p1, p2, p3⟩⟩, rfl, rfl, by show ¬ (3 : Int) = 4; decide⟩
    | cons b G =>
      have e : ld (n + 1) x = ld n (setG (setT x (addT b (xT x))) G) := by show (match xG x with | [] => setS x 3 | e :: G => ld n (setG (setT x (addT e (xT x))) G)) = _; rw [hG]
      rw [e]
      have ag := add_good (e := b) a3
      have b6 := a6 (Or.inr h2)
      rw [hG, List.length_cons] at b6
      have nw : ∀ e, inTG (setG (setT x (addT b (xT x))) G) e ↔ inTG x e := fun e => by
        show (e ∈ lsT (addT b (xT x)) ∨ e ∈ G) ↔ (e ∈ lsT (xT x) ∨ e ∈ xG x)
        rw [ag.2.1 e, hG, List.mem_cons]
        constructor
        · rintro ((h | h) | h)
          · exact Or.inr (Or.inl h)
          · exact Or.inl h
          · exact Or.inr (Or.inr h)
        · rintro (h | h | h)
          · exact Or.inl (Or.inr h)
          · exact Or.inl (Or.inl h)
          · exact Or.inr h
      have hS' : xS (setG (setT x (addT b (xT x))) G) = 2 := h2
      have := ci_ld (D := D) n (x := setG (setT x (addT b (xT x))) G) hS' ⟨a1, a2, ag.1, a4, fun z => absurd (hS'.symm.trans z) (by decide), fun _ => by show (lsT (addT b (xT x))).length + G.length ≤ 16 * xP x; omega, a7, fun z => absurd z (by omega), fun z => absurd z (by omega), fun z => absurd (hS'.symm.trans z) (by decide), fun _ => ⟨fun e => (rp_cg nw e).trans (p1 e), fun n => szL_sub (p2 n) (Nat.le_refl _) (fun e he => (rp_cg nw e).mp he), p3⟩⟩
      exact ⟨this.1, this.2.1, this.2.2.1, this.2.2.2⟩
theorem ci_catch {D : E → Prop} {x : Ix} {c : Int} {a : E} {L : List (Int × E)} (hS : xS x = 3) (hL : xL x = (c, a) :: L) (h : CIQ x D) : CIQ (xCatch x) D := by
  obtain ⟨a1, a2, a3, a4, a5, a6, a7, a8, a9, a10, a11⟩ := h
  obtain ⟨p1, p2, p3⟩ := a11 (by omega)
  have xc : xCatch x = setL (setT x (stepT c a (xT x))) L := by unfold xCatch; rw [hL]
  rw [xc]
  have sm := stepT_m (c := c) (a := a) a3
  have g0 := a8 (by omega)
  have hS' : xS (setL (setT x (stepT c a (xT x))) L) = 3 := hS
  have nw : ∀ e, inTG (setL (setT x (stepT c a (xT x))) L) e ↔ (if c = 0 then fun x' => inTG x x' ∧ x' ≠ a else fun x' => inTG x x' ∨ x' = a) e := fun e => by
    have i1 : inTG (setL (setT x (stepT c a (xT x))) L) e ↔ e ∈ lsT (stepT c a (xT x)) := ⟨fun q => q.elim id (fun q => by have q : e ∈ xG x := q; rw [g0] at q; cases q), Or.inl⟩
    have i2 : inTG x e ↔ e ∈ lsT (xT x) := ⟨fun q => q.elim id (fun q => by rw [g0] at q; cases q), Or.inl⟩
    rw [i1, sm.2 e]
    unfold upD
    by_cases z : c = 0
    · rw [if_pos z, if_pos z]
      exact and_congr_left' i2.symm
    · rw [if_neg z, if_neg z]
      exact or_congr_left i2.symm
  rw [hL] at p1 p2 p3
  refine ⟨a1, a2, sm.1, a4, fun z => absurd (hS'.symm.trans z) (by decide), fun z => by rw [hS'] at z; exact absurd z (by decide), a7, a8, fun z => absurd z (by omega), fun z => absurd (hS'.symm.trans z) (by decide), fun _ => ⟨fun e => (rp_cg nw e).trans (p1 e), fun n => szL_sub (p2 (n + 1)) (Nat.le_refl _) (fun e he => (rp_cg nw e).mp he), fun c' e' hm => p3 c' e' (List.mem_cons_of_mem _ hm)⟩⟩
theorem ci_4 {D : E → Prop} {x : Ix} (hS : xS x = 3) (hL : xL x = []) (h : CIQ x D) : CIQ (setS x 4) D := by
  obtain ⟨a1, a2, a3, a4, a5, a6, a7, a8, a9, a10, a11⟩ := h
  exact ⟨a1, a2, a3, ⟨by show (1 : Int) ≤ 4; decide, by show (4 : Int) ≤ 5; decide, a4.2.2⟩, fun z => absurd (show (4 : Int) = 1 from z) (by decide), fun z => absurd (show (4 : Int) = 1 ∨ (4 : Int) = 2 from z) (by decide), fun _ _ => a7 (by omega) (by omega), fun _ => a8 (by omega), fun _ => hL, fun z => absurd (show (4 : Int) = 5 from z) (by decide), fun _ => a11 (by omega)⟩
/-- a step: what is held is held; READY and unique comes only where nothing clashes -/
theorem ci_step {w : Rw} {x : Ix} {k : Ky} (hk : xK x = k) (h : CIQ x (ents k w)) : CIQ (xStep w x) (ents k w) ∧ xK (xStep w x) = k ∧ xQ (xStep w x) = xQ x ∧ (xS (xStep w x) = 4 → ¬ xS x = 4 → ¬ xQ x = 0 → clAny k w = -1) := by
  have h0 := h
  have a4 := h.2.2.2.1
  unfold xStep
  by_cases c1 : xS x = 1
  · rw [if_pos c1]
    refine ⟨ci_scan hk c1 h, hk, rfl, fun z => ?_⟩
    have z : (if xP x + 1 < 40 then xS x else 2) = 4 := z
    split at z
    · omega
    · omega
  · rw [if_neg c1]
    by_cases c2 : xS x = 2
    · rw [if_pos c2]
      have := ci_ld 16 c2 h
      exact ⟨this.1, this.2.1.trans hk, this.2.2.1, fun z => absurd z this.2.2.2⟩
    · rw [if_neg c2]
      by_cases c3 : xS x = 3
      · rw [if_pos c3]
        by_cases cl : (xL x).length = 0
        · rw [if_pos cl]
          have l0 : xL x = [] := List.length_eq_zero_iff.mp cl
          unfold xFin
          rw [hk]
          by_cases cq : xQ x = 0
          · rw [if_pos cq]
            exact ⟨ci_4 c3 l0 h, hk, rfl, fun _ _ z => absurd cq z⟩
          · rw [if_neg cq]
            by_cases ca : clAny k w = -1
            · rw [if_pos ca]
              exact ⟨ci_4 c3 l0 h, hk, rfl, fun _ _ _ => ca⟩
            · rw [if_neg ca]
              exact ⟨ciq_fail h, hk, rfl, fun z => absurd (show (5 : Int) = 4 from z) (by decide)⟩
        · rw [if_neg cl]
          cases e : xL x with
          | nil => rw [e] at cl; exact absurd rfl cl
          | cons y L =>
            have xc : xCatch x = setL (setT x (stepT y.1 y.2 (xT x))) L := by unfold xCatch; rw [e]
            refine ⟨ci_catch (c := y.1) (a := y.2) c3 e h, by rw [xc]; exact hk, by rw [xc]; rfl, fun z => ?_⟩
            rw [xc] at z
            have z : xS x = 4 := z
            omega
      · rw [if_neg c3]
        exact ⟨h, hk, rfl, fun z z2 => absurd z z2⟩
theorem ci_stN {w : Rw} {k : Ky} : ∀ (n : Nat) {x : Ix}, xK x = k → CIQ x (ents k w) → CIQ (stN w n x) (ents k w) ∧ xK (stN w n x) = k ∧ xQ (stN w n x) = xQ x ∧ (xS (stN w n x) = 4 → ¬ xS x = 4 → ¬ xQ x = 0 → clAny k w = -1)
  | 0, x, hk, h => ⟨h, hk, rfl, fun z z2 => absurd z z2⟩
  | n + 1, x, hk, h => by
    show CIQ (if xS x < 4 then stN w n (xStep w x) else x) (ents k w) ∧ xK (if xS x < 4 then stN w n (xStep w x) else x) = k ∧ xQ (if xS x < 4 then stN w n (xStep w x) else x) = xQ x ∧ (xS (if xS x < 4 then stN w n (xStep w x) else x) = 4 → _)
    by_cases c : xS x < 4
    · rw [if_pos c]
      obtain ⟨s1, s2, s3, s4⟩ := ci_step hk h
      obtain ⟨t1, t2, t3, t4⟩ := ci_stN n s2 s1
      refine ⟨t1, t2, t3.trans s3, fun z z2 z3 => ?_⟩
      by_cases c4 : xS (xStep w x) = 4
      · exact s4 c4 z2 z3
      · exact t4 z c4 (by rw [s3]; exact z3)
    · rw [if_neg c]
      exact ⟨h, hk, rfl, fun z z2 => absurd z z2⟩
