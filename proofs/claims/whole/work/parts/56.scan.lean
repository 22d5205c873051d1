/-! PICKS, class -/
def insG (e : E) : List E → List E
  | [] => [e]
  | g :: G => if ecmp g e < 0 then g :: insG e G else e :: g :: G
def srtG (G : List E) : Prop := G.Pairwise (fun a b => ¬ elt b a)
theorem insG_len (e : E) : ∀ G : List E, (insG e G).length = G.length + 1
  | [] => rfl
  | g :: G => by
    show (if ecmp g e < 0 then g :: insG e G else e :: g :: G).length = _
    by_cases c : ecmp g e < 0
    · rw [if_pos c, List.length_cons, insG_len e G, List.length_cons]
    · rw [if_neg c, List.length_cons]
theorem insG_mem (e : E) : ∀ (G : List E) (y : E), y ∈ insG e G ↔ y = e ∨ y ∈ G
  | [], y => by show y ∈ [e] ↔ _; simp
  | g :: G, y => by
    show y ∈ (if ecmp g e < 0 then g :: insG e G else e :: g :: G) ↔ _
    by_cases c : ecmp g e < 0
    · rw [if_pos c, List.mem_cons, insG_mem e G y, List.mem_cons]
      constructor
      · rintro (h | h | h)
        · exact Or.inr (Or.inl h)
        · exact Or.inl h
        · exact Or.inr (Or.inr h)
      · rintro (h | h | h)
        · exact Or.inr (Or.inl h)
        · exact Or.inl h
        · exact Or.inr (Or.inr h)
    · rw [if_neg c, List.mem_cons]
theorem le_tr {a b c : E} (h1 : ¬ elt b a) (h2 : ¬ elt c b) : ¬ elt c a := by
  rcases elt_tri a b with h | h | h
  · rcases elt_tri b c with h' | h' | h'
    · exact fun z => elt_irr a (elt_trans h (elt_trans h' z))
    · subst h'; exact h1
    · exact absurd h' h2
  · subst h; exact h2
  · exact absurd h h1
theorem insG_srt {e : E} : ∀ {G : List E}, srtG G → srtG (insG e G)
  | [], _ => List.pairwise_singleton _ _
  | g :: G, h => by
    have hc := List.pairwise_cons.mp h
    show srtG (if ecmp g e < 0 then g :: insG e G else e :: g :: G)
    by_cases c : ecmp g e < 0
    · rw [if_pos c]
      refine List.pairwise_cons.mpr ⟨fun y hy => ?_, insG_srt hc.2⟩
      rcases (insG_mem e G y).mp hy with h' | h'
      · subst h'
        have := (ecmp_neg _ _).mp c
        exact fun z => elt_irr _ (elt_trans this z)
      · exact hc.1 y h'
    · rw [if_neg c]
      have hge : ¬ elt g e := fun z => c ((ecmp_neg _ _).mpr z)
      refine List.pairwise_cons.mpr ⟨fun y hy => ?_, h⟩
      rcases List.mem_cons.mp hy with h' | h'
      · subst h'; exact hge
      · exact le_tr hge (hc.1 y h')
theorem insL_insG {e : E} : ∀ {G : List E} {n : Nat}, n ≤ G.length → (∀ j g, j < n → G[j]? = some g → ecmp g e < 0) → (∀ g, G[n]? = some g → ¬ ecmp g e < 0) → insL G n e = insG e G
  | [], n, hn, _, _ => by
    have : n = 0 := by simpa using hn
    subst this
    rfl
  | g :: G, 0, _, _, h => by
    show e :: g :: G = (if ecmp g e < 0 then g :: insG e G else e :: g :: G)
    rw [if_neg (h g rfl)]
  | g :: G, n + 1, hn, h1, h2 => by
    show g :: insL G n e = (if ecmp g e < 0 then g :: insG e G else e :: g :: G)
    rw [if_pos (h1 0 g (by omega) rfl), insL_insG (by simpa using hn) (fun j y hj hy => h1 (j + 1) y (by omega) hy) (fun y hy => h2 y hy)]
set_option maxHeartbeats 1000000 in
theorem c_slotOf {B q sz : Nat} {I : Mm} {K : Int → Mm → Prop} {fa : Nat} {G : List E} {e : E} (hB : isX B) (hsz : rd I (B + 19) 2 = sz) (hG : G.length = sz) (hs : sz ≤ 639) (ho : ∀ j g, G[j]? = some g → ∃ o : Nat, rd I (B + 22) j = o ∧ o < 640 ∧ en4 (rd I (B + 21)) o = g) (hq : q < 640) (he : en4 (rd I (B + 21)) q = e) (hst : srtG G)
    (h : ∀ n : Nat, n ≤ sz → (∀ j g, j < n → G[j]? = some g → ecmp g e < 0) → (∀ j g, n ≤ j → G[j]? = some g → ¬ ecmp g e < 0) → K n I) : CallZ 47 [.inr (2, B, 19), .inl (fa, (q : Int))] I K := by
  have ord : ∀ (i j : Nat) (a b : E), i < j → G[i]? = some a → G[j]? = some b → ¬ elt b a := by
    intro i j a b hij ha hb
    have := List.pairwise_iff_getElem.mp hst i j (List.getElem?_eq_some_iff.mp ha).1 (List.getElem?_eq_some_iff.mp hb).1 hij
    rw [(List.getElem?_eq_some_iff.mp ha).2, (List.getElem?_eq_some_iff.mp hb).2] at this
    exact this
  have loop : ∀ (d fr to ha : Nat) (m5 : Option AV), okO m5 → fr + d = to → to ≤ sz → ha + d ≤ sz → (∀ j g, j < fr → G[j]? = some g → ecmp g e < 0) → (∀ j g, to ≤ j → G[j]? = some g → ¬ ecmp g e < 0) → GoA 47 10 [some (.inr (2, B, 19)), some (.inl (1, (q : Int))), some (.inl (1, (fr : Int))), some (.inl (1, (to : Int))), some (.inl (1, (ha : Int))), m5] [] I (rZ K) := by
    intro d
    induction d using Nat.strongRecOn with
    | ind d ih =>
      intro fr to ha m5 o5 hd hto hha lo hi
      refine b_slotOf_10 hB (inRn (by omega)) (inRn (by omega)) (inRn (by omega)) (inRn (by omega)) o5 ⟨fun z => absurd z (by omega), fun _ => ⟨fun z => ?_, fun z => ?_⟩⟩
      · have e0 : fr = to := by omega
        subst e0
        exact h fr (by omega) lo hi
      · have wv : wr ((fr : Int) + (to : Int)) = ((fr + to : Nat) : Int) := wrn _ (by omega) (by omega)
        rw [wv]
        refine ⟨by omega, ?_⟩
        intro v5 e5 i5
        obtain ⟨m, hm⟩ : ∃ m : Nat, m = (fr + to) / 2 := ⟨_, rfl⟩
        have ev : v5 = (m : Int) := by rw [e5, hm]; rfl
        subst ev
        have m1 : fr ≤ m ∧ m < to := by omega
        obtain ⟨g, hg⟩ : ∃ g, G[m]? = some g := ⟨_, List.getElem?_eq_getElem (by omega)⟩
        obtain ⟨o, o1, o2, o3⟩ := ho m g hg
        rw [Int.toNat_natCast, o1]
        refine ⟨by omega, ?_⟩
        refine c_cmp_20_20 hB (by omega) (by omega) ?_
        rw [o3, he]
        refine ⟨fun z2 => ?_, fun z2 => ?_⟩
        · intro v3 e3 _ v4 e4 _
          subst e3
          rw [wrn (ha + 1) (by omega) (by omega)] at e4
          subst e4
          refine ih (m - fr) (by omega) fr m (ha + 1) _ (okO_s (okF_1 i5 1)) (by omega) (by omega) (by omega) lo (fun j y hj hy => ?_)
          by_cases c : j = m
          · subst c; rw [hg] at hy; cases hy; omega
          · have h1 : ¬ elt g e := fun z => absurd ((ecmp_neg _ _).mpr z) (by omega)
            have h2 := ord m j g y (by omega) hg hy
            exact fun z => le_tr h1 h2 ((ecmp_neg _ _).mp z)
        · intro v2 e2 _ v4 e4 _
          rw [wrn (m + 1) (by omega) (by omega)] at e2
          rw [wrn (ha + 1) (by omega) (by omega)] at e4
          subst e2; subst e4
          refine ih (to - (m + 1)) (by omega) (m + 1) to (ha + 1) _ (okO_s (okF_1 i5 1)) (by omega) (by omega) (by omega) (fun j y hj hy => ?_) hi
          have h1 : elt g e := (ecmp_neg _ _).mp (by omega)
          by_cases c : j = m
          · subst c; rw [hg] at hy; cases hy; omega
          · have h2 := ord j m y g (by omega) hy hg
            refine (ecmp_neg _ _).mpr ?_
            rcases elt_tri y g with h3 | h3 | h3
            · exact elt_trans h3 h1
            · subst h3; exact h1
            · exact absurd h3 h2
  refine callZ_fl (as' := [.inr (2, B, 19), .inl (1, (q : Int))]) rfl ?_
  refine callZ_of rfl (b_slotOf hB (inRn (by omega)) ?_)
  intro v3 e3 _
  rw [hsz] at e3
  subst e3
  exact loop sz 0 sz 0 none okO_n (by omega) (by omega) (by omega) (fun j g hj => absurd hj (by omega)) (fun j g hj hg => by
    have := (List.getElem?_eq_some_iff.mp hg).1
    omega)
set_option maxHeartbeats 2000000 in
theorem c_padd {B : Nat} {I : Mm} {K : Mm → Prop} {fa : Nat} {G : List E} {e : E} (hB : isX B) (hPk : PkC I B 1 G) (hst : srtG G) (hl : G.length < 640) (he : en4 (rd I (B + 24)) 0 = e)
    (hK : ∀ I' : Mm, (∀ c, c ≠ B + 19 → c ≠ B + 21 → c ≠ B + 22 → I' c = I c) → PkC I' B 1 (insG e G) → K I') : CallV 46 [.inr (2, B, 19), .inr (2, B, 23), .inl (fa, ((0 : Nat) : Int))] I K := by
  obtain ⟨sz, tk, c0, c1, c2, c3, c4, c5⟩ := hPk
  have t0 := c0 rfl
  subst t0
  have gl : G.length = sz := by omega
  refine callV_fl (as' := [.inr (2, B, 19), .inr (2, B, 23), .inl (1, ((0 : Nat) : Int))]) rfl ?_
  refine callV_of rfl (b_padd hB (inRn (by omega)) ?_)
  rw [c3]
  refine ⟨fun _ => ?_, fun z => absurd (by omega) z⟩
  have w0 : wr (((0 : Nat) : Int) * 4) = ((0 : Nat) : Int) := wrn 0 (by omega) (by omega)
  have w1 : wr ((sz : Int) * 4) = ((4 * sz : Nat) : Int) := wrn _ (by omega) (by omega)
  rw [w0, w1, Int.toNat_natCast, Int.toNat_natCast]
  refine ⟨by omega, ?_⟩
  intro I1 e1
  have q1 : ∀ c, c ≠ B + 21 → I1 c = I c := fun c k1 => by rw [e1, cp_a _ _ _ _ _ _ k1]
  have r21 : ∀ j, rd I1 (B + 21) j = if 4 * sz ≤ j ∧ j < 4 * sz + 4 then rd I (B + 24) (j - 4 * sz) else rd I (B + 21) j := fun j => by
    rw [e1, rd_cp, if_pos rfl]
    by_cases c : 4 * sz ≤ j ∧ j < 4 * sz + 4
    · rw [if_pos c, if_pos c, Nat.zero_add]
    · rw [if_neg c, if_neg c]
  have enq : en4 (rd I1 (B + 21)) sz = e := by
    rw [← he]
    unfold en4
    rw [r21, r21, r21, r21, if_pos (by omega), if_pos (by omega), if_pos (by omega), if_pos (by omega), show 4 * sz - 4 * sz = 4 * 0 by omega, show 4 * sz + 1 - 4 * sz = 4 * 0 + 1 by omega, show 4 * sz + 2 - 4 * sz = 4 * 0 + 2 by omega, show 4 * sz + 3 - 4 * sz = 4 * 0 + 3 by omega]
  have eno : ∀ o, o < sz → en4 (rd I1 (B + 21)) o = en4 (rd I (B + 21)) o := fun o ho => by
    unfold en4
    rw [r21, r21, r21, r21, if_neg (by omega), if_neg (by omega), if_neg (by omega), if_neg (by omega)]
  have r19 : rd I1 (B + 19) 2 = sz := by rw [rd_of (q1 _ (by omega)), c3]
  rw [r19]
  refine c_slotOf (sz := sz) (G := G) (e := e) hB r19 gl (by omega) (fun j g hg => ?_) (by omega) enq hst ?_
  · obtain ⟨o, o1, o2, o3⟩ := c5 j g hg
    rw [Nat.zero_add] at o1
    exact ⟨o, by rw [rd_of (q1 _ (by omega)), o1], by omega, by rw [eno o o2, o3]⟩
  · intro n hn lo hi v3 e3 i3
    subst e3
    rw [r19]
    have wn1 : wr ((n : Int) + 1) = ((n + 1 : Nat) : Int) := wrn _ (by omega) (by omega)
    have wn2 : wr ((sz : Int) - (n : Int)) = ((sz - n : Nat) : Int) := wrn _ (by omega) (by omega)
    rw [wn1, wn2, Int.toNat_natCast, Int.toNat_natCast, Int.toNat_natCast]
    refine ⟨by omega, ?_⟩
    intro I3 e3
    refine ⟨by omega, ?_⟩
    have r193 : rd I3 (B + 19) 2 = sz := by rw [e3, rd_cp_a _ _ _ _ _ _ (by omega), r19]
    rw [r193]
    intro I4 e4
    have r194 : rd I4 (B + 19) 2 = sz := by rw [e4, rd_wt_a _ _ _ _ (by omega), r193]
    rw [r194]
    intro I5 e5
    have o5 : ∀ j, rd I5 (B + 22) j = if j = n then (sz : Int) else if n + 1 ≤ j ∧ j < n + 1 + (sz - n) then rd I (B + 22) (n + (j - (n + 1))) else rd I (B + 22) j := by
      intro j
      rw [e5, rd_wt_a _ _ _ _ (by omega), e4, rd_wt, if_pos rfl, wrn sz rfl (by omega)]
      by_cases cj : j = n
      · rw [if_pos cj, if_pos cj]
      · rw [if_neg cj, if_neg cj, e3, rd_cp, if_pos rfl]
        by_cases c : n + 1 ≤ j ∧ j < n + 1 + (sz - n)
        · rw [if_pos c, if_pos c, rd_of (q1 _ (by omega))]
        · rw [if_neg c, if_neg c, rd_of (q1 _ (by omega))]
    have q5 : ∀ c, c ≠ B + 19 → c ≠ B + 21 → c ≠ B + 22 → I5 c = I c := fun c k9 k1 k2 => by rw [e5, wt_a _ _ _ _ k9, e4, wt_a _ _ _ _ k2, e3, cp_a _ _ _ _ _ _ k2, q1 c k1]
    have e21 : rd I5 (B + 21) = rd I1 (B + 21) := funext (fun j => by rw [e5, rd_wt_a _ _ _ _ (by omega), e4, rd_wt_a _ _ _ _ (by omega), e3, rd_cp_a _ _ _ _ _ _ (by omega)])
    refine hK I5 q5 ?_
    rw [← insL_insG (n := n) (by omega) lo (fun g hg => hi n g (Nat.le_refl _) hg)]
    refine ⟨sz + 1, 0, fun _ => rfl, by rw [insL_len _ _ (by omega)]; omega, by omega, by rw [e5, rd_wt_s _ _ _ ⟨by omega, by omega⟩]; rfl, by rw [e5, rd_wt_k _ _ _ _ (by omega), e4, rd_wt_a _ _ _ _ (by omega), e3, rd_cp_a _ _ _ _ _ _ (by omega), rd_of (q1 _ (by omega)), c4], fun j g hj => ?_⟩
    rw [Nat.zero_add, e21]
    rcases Nat.lt_trichotomy j n with c | c | c
    · rw [insL_lo (by omega) c] at hj
      obtain ⟨o, o1, o2, o3⟩ := c5 j g hj
      rw [Nat.zero_add] at o1
      exact ⟨o, by rw [o5, if_neg (by omega), if_neg (by omega), o1], by omega, by rw [eno o o2, o3]⟩
    · subst c
      rw [insL_at (by omega)] at hj
      cases hj
      exact ⟨sz, by rw [o5, if_pos rfl], by omega, enq⟩
    · obtain ⟨i, rfl⟩ : ∃ i, j = i + 1 := ⟨j - 1, by omega⟩
      rw [insL_hi (by omega) (by omega)] at hj
      have il := (List.getElem?_eq_some_iff.mp hj).1
      obtain ⟨o, o1, o2, o3⟩ := c5 i g hj
      rw [Nat.zero_add] at o1
      exact ⟨o, by rw [o5, if_neg (by omega), if_pos (by omega), show n + (i + 1 - (n + 1)) = i by omega, o1], by omega, by rw [eno o o2, o3]⟩
/-- the entries of a place -/
def enA (k : Ky) (w : Rw) (p : Nat) : List E := match w.1 p with
  | some x => [kE k x p]
  | none => []
def enB (k : Ky) (w : Rw) (p : Nat) : List E := match w.2.1 p with
  | some y => if sk k (w.2.1 p) (w.1 p) then [] else [kE k y p]
  | none => []
def insA (G es : List E) : List E := es.foldl (fun G e => insG e G) G
def scG (k : Ky) (w : Rw) : Nat → Nat → List E → List E
  | 0, _, G => G
  | d + 1, p, G => scG k w d (p + 1) (insA (insA G (enA k w p)) (enB k w p))
def xScan (w : Rw) (x : Ix) : Ix := (x.1, x.2.1, (if xP x + 1 < 40 then xS x else 2, xP x + 1), x.2.2.2.1, x.2.2.2.2.1, x.2.2.2.2.2.1, scG (xK x) w 8 (8 * xP x) (xG x))
set_option maxHeartbeats 4000000 in
theorem c_scanPage {B : Nat} {I : Mm} {K : Mm → Prop} {x : Ix} {w : Rw} (hB : isX B) (hU : xU x = 1) (hx : IxC I B x) (hk : kyOK (xK x)) (hw : RowC I 1 w) (hS : xS x = 1) (hP : xP x < 40) (hst : srtG (xG x)) (hl : (xG x).length ≤ 16 * xP x)
    (hK : ∀ I' : Mm, XFr I I' B → IxC I' B (xScan w x) → K I') : CallV 26 [.inr (2, B, 0), .inr (0, 0, 1)] I K := by
  have hx0 := hx
  obtain ⟨a1, a2, a3⟩ := hx
  obtain ⟨b1, b2, b3, b4, b5, b6, b7, b8⟩ := a3 (by omega)
  have hb := isX_62 hB
  rw [hS] at b8
  have loop : ∀ (d k : Nat) (J : Mm) (G : List E) (m3 : Option AV), okO m3 → k + d = 8 → (∀ c, c ≠ B + 19 → c ≠ B + 21 → c ≠ B + 22 → c ≠ B + 24 → J c = I c) → PkC J B 1 G → srtG G → G.length ≤ 16 * xP x + 2 * k → scG (xK x) w d (8 * xP x + k) G = scG (xK x) w 8 (8 * xP x) (xG x) → GoA 26 2 [some (.inr (2, B, 0)), some (.inr (0, 0, 1)), some (.inl (1, (k : Int))), m3] [] J (rV K) := by
    intro d
    induction d with
    | zero =>
      intro k J G m3 o3 hkd f1 f2 f3 f4 f5
      have r5 : rd J B 5 = xP x := by rw [rd_of (f1 _ (by omega) (by omega) (by omega) (by omega)), b4.2]
      refine b_scanPage_2 hB (inRn (by omega)) o3 ⟨fun _ => ?_, fun z => absurd (by omega) z⟩
      rw [r5]
      intro I1 e1
      have f5' : G = scG (xK x) w 8 (8 * xP x) (xG x) := f5
      have q : ∀ c, c ≠ B → c ≠ B + 19 → c ≠ B + 21 → c ≠ B + 22 → c ≠ B + 24 → I1 c = I c := fun c c0 c9 c1 c2 c4 => by rw [e1, wt_a _ _ _ _ c0, f1 c c9 c1 c2 c4]
      have rB : ∀ j, j ≠ 5 → rd I1 B j = rd I B j := fun j hj => by rw [e1, rd_wt_k _ _ _ _ hj, rd_of (f1 _ (by omega) (by omega) (by omega) (by omega))]
      have r15 : rd I1 B 5 = ((xP x + 1 : Nat) : Int) := by rw [e1, rd_wt_s _ _ _ ⟨by omega, by omega⟩]; rfl
      have h1 : I1 (B + 1) = I (B + 1) := q _ (by omega) (by omega) (by omega) (by omega) (by omega)
      have fin : ∀ I2 : Mm, (∀ c, c ≠ B → I2 c = I1 c) → (∀ j, j ≠ 4 → rd I2 B j = rd I1 B j) → rd I2 B 4 = (if xP x + 1 < 40 then xS x else 2) → K I2 := by
        intro I2 g1 g2 g3
        have h2 : I2 (B + 1) = I (B + 1) := by rw [g1 _ (by omega), h1]
        have g : ∀ c, c ≠ B → c ≠ B + 19 → c ≠ B + 21 → c ≠ B + 22 → c ≠ B + 24 → I2 c = I c := fun c c0 c9 c1 c2 c4 => by rw [g1 c c0, q c c0 c9 c1 c2 c4]
        refine hK I2 (fun c hc => g c (by omega) (by omega) (by omega) (by omega) (by omega)) ⟨by rw [g2 0 (by omega), rB 0 (by omega)]; exact a1, szOK_cg (g _ (by omega) (by omega) (by omega) (by omega) (by omega)) a2, fun _ => ⟨by rw [g2 1 (by omega), rB 1 (by omega)]; exact b1, ⟨by rw [g2 2 (by omega), rB 2 (by omega)]; exact b2.1, fun j hj => by rw [rd_of h2]; exact b2.2 j hj⟩, by rw [rd_of h2, rd_of h2, rd_of h2]; exact b3, ⟨g3, by rw [g2 5 (by omega), r15]; rfl⟩, ⟨by rw [g2 6 (by omega), rB 6 (by omega)]; exact b5.1, by rw [g2 7 (by omega), rB 7 (by omega)]; exact b5.2.1, by rw [g2 8 (by omega), rB 8 (by omega)]; exact b5.2.2⟩, treeC_fr (fun c c1 c2 => g c (by omega) (by omega) (by omega) (by omega) (by omega)) b6, logC_cg (g _ (by omega) (by omega) (by omega) (by omega) (by omega)) (g _ (by omega) (by omega) (by omega) (by omega) (by omega)) (g _ (by omega) (by omega) (by omega) (by omega) (by omega)) b7, ?_⟩⟩
        show PkC I2 B (if xP x + 1 < 40 then xS x else 2) (scG (xK x) w 8 (8 * xP x) (xG x))
        rw [← f5']
        have eJ : ∀ c, c ≠ B → I2 c = J c := fun c c0 => by rw [g1 c c0, e1, wt_a _ _ _ _ c0]
        obtain ⟨sz, tk, c0, c1, c2, c3, c4, c5⟩ := pkC_cg (eJ _ (by omega)) (eJ _ (by omega)) (eJ _ (by omega)) f2
        exact ⟨sz, tk, fun _ => c0 rfl, c1, c2, c3, c4, c5⟩
      rw [r15]
      refine ⟨fun z => ?_, fun z => ?_⟩
      · refine fin I1 (fun _ _ => rfl) (fun _ _ => rfl) ?_
        rw [rB 4 (by omega), b4.1, if_pos (by omega)]
      · intro I2 e2
        refine fin I2 (fun c c0 => by rw [e2, wt_a _ _ _ _ c0]) (fun j hj => by rw [e2, rd_wt_k _ _ _ _ hj]) ?_
        rw [e2, rd_wt_s _ _ _ ⟨by omega, by omega⟩, if_neg (by omega)]
    | succ d ih =>
      intro k J G m3 o3 hkd f1 f2 f3 f4 f5
      obtain ⟨p, hp⟩ : ∃ p, p = 8 * xP x + k := ⟨_, rfl⟩
      have p320 : p < 320 := by omega
      have r5 : rd J B 5 = xP x := by rw [rd_of (f1 _ (by omega) (by omega) (by omega) (by omega)), b4.2]
      have wv : wr (((xP x : Nat) : Int) * 8 + (k : Int)) = (p : Int) := wrn p (by omega) (by omega)
      have wp : wr ((p : Int) * 5 + 4) = ((5 * p + 4 : Nat) : Int) := wrn _ (by omega) (by omega)
      have step2 : ∀ (J1 : Mm) (G1 : List E), (∀ c, c ≠ B + 19 → c ≠ B + 21 → c ≠ B + 22 → c ≠ B + 24 → J1 c = I c) → PkC J1 B 1 G1 → srtG G1 → G1.length ≤ 16 * xP x + 2 * k + 1 → scG (xK x) w d (p + 1) (insA G1 (enB (xK x) w p)) = scG (xK x) w 8 (8 * xP x) (xG x) → (0 ≤ (wr (((p : Int) * 5) + 4)) ∧ (wr (((p : Int) * 5) + 4)) < 1600) ∧ ((rd J1 5 (wr (((p : Int) * 5) + 4)).toNat = 0 → ∀ v2_2, v2_2 = wr ((k : Int) + 1) → inR v2_2 → GoA 26 2 [some (.inr (2, B, 0)), some (.inr (0, 0, 1)), some (.inl (1, v2_2)), some (.inl (1, (p : Int)))] [] J1 (rV K)) ∧ (¬ rd J1 5 (wr (((p : Int) * 5) + 4)).toNat = 0 → CallZ 18 [.inr (2, B, 0), .inr (0, 0, 4), .inl (1, (p : Int)), .inr (0, 0, 2), .inl (1, (p : Int))] J1 (fun x1 I3 => (x1 = 0 → CallV 19 [.inr (2, B, 0), .inr (0, 0, 4), .inl (1, (p : Int)), .inl (1, (p : Int))] I3 (fun I4 => CallV 46 [.inr (2, B, 19), .inr (2, B, 23), .inl (2, 0)] I4 (fun I5 => ∀ v2_4, v2_4 = wr ((k : Int) + 1) → inR v2_4 → GoA 26 2 [some (.inr (2, B, 0)), some (.inr (0, 0, 1)), some (.inl (1, v2_4)), some (.inl (1, (p : Int)))] [] I5 (rV K)))) ∧ (¬ x1 = 0 → ∀ v2_3, v2_3 = wr ((k : Int) + 1) → inR v2_3 → GoA 26 2 [some (.inr (2, B, 0)), some (.inr (0, 0, 1)), some (.inl (1, v2_3)), some (.inl (1, (p : Int)))] [] I3 (rV K))))) := by
        intro J1 G1 g1 g2 g3 g4 g5
        have hw1 : RowC J1 1 w := rowC_cg (g1 _ (by omega) (by omega) (by omega) (by omega)) (g1 _ (by omega) (by omega) (by omega) (by omega)) (g1 _ (by omega) (by omega) (by omega) (by omega)) hw
        have hC1 : kyC J1 B (xK x) := kyC_cg (g1 _ (by omega) (by omega) (by omega) (by omega)) (g1 _ (by omega) (by omega) (by omega) (by omega)) b2
        have cu : imC J1 5 p = w.2.1 p := (hw1 p p320).2.1
        have cm : imC J1 3 p = w.1 p := (hw1 p p320).1
        rw [wp, Int.toNat_natCast]
        unfold enB at g5
        refine ⟨by omega, fun z => ?_, fun z => ?_⟩
        · intro v2 e2 _
          rw [wrn (k + 1) (by omega) (by omega)] at e2
          subst e2
          rw [imC_none z] at cu
          rw [← cu] at g5
          exact ih (k + 1) J1 G1 _ (okO_s (okF_1 (inRn (by omega)) 1)) (by omega) g1 g2 g3 (by omega) (by rw [show 8 * xP x + (k + 1) = p + 1 by omega]; exact g5)
        · obtain ⟨y, hy⟩ := imC_ex z
          rw [hy] at cu
          rw [← cu] at g5
          refine callZ_fl (as' := [.inr (2, B, 0), .inr (4, 4, 0), .inl (1, (p : Int)), .inr (4, 2, 0), .inl (1, (p : Int))]) rfl ?_
          refine c_hok_44 hB (Or.inr (Or.inl rfl)) (Or.inl rfl) hk hC1 p320 p320 ?_
          rw [hy, cm]
          cases s1 : sk (xK x) (some y) (w.1 p) with
          | true =>
            refine ⟨fun z2 => absurd z2 (by decide), fun _ => ?_⟩
            intro v2 e2 _
            rw [wrn (k + 1) (by omega) (by omega)] at e2
            subst e2
            simp only [s1, if_true] at g5
            exact ih (k + 1) J1 G1 _ (okO_s (okF_1 (inRn (by omega)) 1)) (by omega) g1 g2 g3 (by omega) (by rw [show 8 * xP x + (k + 1) = p + 1 by omega]; exact g5)
          | false =>
            refine ⟨fun _ => ?_, fun z2 => absurd rfl z2⟩
            refine callV_fl (as' := [.inr (2, B, 0), .inr (4, 4, 0), .inl (1, (p : Int)), .inl (1, (p : Int))]) rfl ?_
            refine c_mke_4 hB (Or.inr (Or.inl rfl)) hk hC1 p320 p320 hy (by omega) ?_
            intro J2 y1 y2
            refine callV_fl (as' := [.inr (2, B, 19), .inr (2, B, 23), .inl (1, ((0 : Nat) : Int))]) rfl ?_
            refine c_padd hB (pkC_cg (y1 _ (by omega)) (y1 _ (by omega)) (y1 _ (by omega)) g2) g3 (by omega) y2 ?_
            intro J3 z1 z2 v2 e2 _
            rw [wrn (k + 1) (by omega) (by omega)] at e2
            subst e2
            simp only [s1] at g5
            exact ih (k + 1) J3 _ _ (okO_s (okF_1 (inRn (by omega)) 1)) (by omega) (fun c c9 c1 c2 c4 => by rw [z1 c c9 c1 c2, y1 c c4, g1 c c9 c1 c2 c4]) z2 (insG_srt g3) (by rw [insG_len]; omega) (by rw [show 8 * xP x + (k + 1) = p + 1 by omega]; exact g5)
      have hwJ : RowC J 1 w := rowC_cg (f1 _ (by omega) (by omega) (by omega) (by omega)) (f1 _ (by omega) (by omega) (by omega) (by omega)) (f1 _ (by omega) (by omega) (by omega) (by omega)) hw
      have hCJ : kyC J B (xK x) := kyC_cg (f1 _ (by omega) (by omega) (by omega) (by omega)) (f1 _ (by omega) (by omega) (by omega) (by omega)) b2
      have cm : imC J 3 p = w.1 p := (hwJ p p320).1
      rw [← hp] at f5
      have f5 : scG (xK x) w d (p + 1) (insA (insA G (enA (xK x) w p)) (enB (xK x) w p)) = scG (xK x) w 8 (8 * xP x) (xG x) := f5
      refine b_scanPage_2 hB (inRn (by omega)) o3 ⟨fun z => absurd z (by omega), fun _ => ?_⟩
      rw [r5, wv]
      intro v3 e3 i3
      subst e3
      refine ⟨by rw [wp]; omega, fun z => ?_, fun z => ?_⟩
      · rw [wp, Int.toNat_natCast] at z
        rw [imC_none z] at cm
        refine step2 J G f1 f2 f3 (by omega) ?_
        unfold enA at f5
        rw [← cm] at f5
        exact f5
      · rw [wp, Int.toNat_natCast] at z
        obtain ⟨y, hy⟩ := imC_ex z
        rw [hy] at cm
        refine callV_fl (as' := [.inr (2, B, 0), .inr (4, 2, 0), .inl (1, (p : Int)), .inl (1, (p : Int))]) rfl ?_
        refine c_mke_4 hB (Or.inl rfl) hk hCJ p320 p320 hy (by omega) ?_
        intro J2 y1 y2
        refine callV_fl (as' := [.inr (2, B, 19), .inr (2, B, 23), .inl (1, ((0 : Nat) : Int))]) rfl ?_
        refine c_padd hB (pkC_cg (y1 _ (by omega)) (y1 _ (by omega)) (y1 _ (by omega)) f2) f3 (by omega) y2 ?_
        intro J3 z1 z2
        refine step2 J3 _ (fun c c9 c1 c2 c4 => by rw [z1 c c9 c1 c2, y1 c c4, f1 c c9 c1 c2 c4]) z2 (insG_srt f3) (by rw [insG_len]; omega) ?_
        unfold enA at f5
        rw [← cm] at f5
        exact f5
  exact callV_of rfl (b_scanPage hB (loop 8 0 I (xG x) none okO_n (by omega) (fun _ _ _ _ _ => rfl) b8 hst (by omega) rfl))
/-- one step of building -/
def xStep (w : Rw) (x : Ix) : Ix := if xS x = 1 then xScan w x else if xS x = 2 then ld 16 x else if xS x = 3 then (if (xL x).length = 0 then xFin w x else xCatch x) else x
/-- what a step asks of an index -/
def stOK (x : Ix) : Prop := kyOK (xK x) ∧ good (xT x) ∧ (lsT (xT x)).length ≤ 647 ∧ xP x ≤ 40 ∧ (xS x = 1 → xP x < 40 ∧ srtG (xG x) ∧ (xG x).length ≤ 16 * xP x) ∧ (xS x = 2 → (lsT (xT x)).length + (xG x).length ≤ 647)
theorem c_takeStep {B : Nat} {I : Mm} {K : Mm → Prop} {x : Ix} {w : Rw} (hB : isX B) (hU : xU x = 1) (hx : IxC I B x) (hk : stOK x) (hw : RowC I 1 w) (hN : wOK w) (hf : xS x = 3 → xL x = [] → AllE (xK x) w (xT x))
    (hK : ∀ I' : Mm, XFr I I' B → IxC I' B (xStep w x) → K I') : CallV 25 [.inr (2, B, 0), .inr (0, 0, 1)] I K := by
  have hx0 := hx
  obtain ⟨a1, a2, a3⟩ := hx
  obtain ⟨b1, b2, b3, b4, b5, b6, b7, b8⟩ := a3 (by omega)
  obtain ⟨k1, k2, k3, k4, k5, k6⟩ := hk
  refine callV_of rfl (b_takeStep hB ?_)
  rw [b4.1]
  unfold xStep at hK
  refine ⟨fun z => ?_, fun z => ⟨fun z2 => ?_, fun z2 => ⟨fun z3 => ?_, fun z3 => ⟨fun z4 => absurd z4 z3, fun _ => ?_⟩⟩⟩⟩
  · rw [if_pos z] at hK
    exact c_scanPage hB hU hx0 k1 hw z (k5 z).1 (k5 z).2.1 (k5 z).2.2 hK
  · rw [if_neg z, if_pos z2] at hK
    exact c_loadSome hB hU z2 hx0 k2 (k6 z2) hK
  · rw [if_neg z, if_neg z2, if_pos z3] at hK
    obtain ⟨f, l1, l2, l3, l4, l5⟩ := b7
    rw [l3]
    refine ⟨fun z4 => ⟨fun _ => ?_, fun c => absurd z3 c⟩, fun z4 => ?_⟩
    · rw [if_pos (by omega)] at hK
      exact c_finish hB hU hx0 k1 hw z3 hN k2 (by omega) (hf z3 (List.length_eq_zero_iff.mp (by omega))) hK
    · rw [if_neg (by omega)] at hK
      cases hL : xL x with
      | nil => rw [hL] at z4; exact absurd (by simp) z4
      | cons ce L =>
        obtain ⟨c0, e0⟩ := ce
        exact c_catchUp hB hU hx0 hL k2 k3 hK
  · rw [if_neg z, if_neg z2, if_neg z3] at hK
    exact hK I (fun _ _ => rfl) hx0
