/-! AN INDEX -/
abbrev Ix : Type := (Int × Int) × (Ky × Int × Int × Int) × (Int × Nat) × (Int × Int × Int) × TS E × List (Int × E) × List E
def xU (x : Ix) : Int := x.1.1
def xQ (x : Ix) : Int := x.1.2
def xK (x : Ix) : Ky := x.2.1.1
def xF (x : Ix) : Int × Int × Int := x.2.1.2
def xS (x : Ix) : Int := x.2.2.1.1
def xP (x : Ix) : Nat := x.2.2.1.2
def xW (x : Ix) : Int × Int × Int := x.2.2.2.1
def xT (x : Ix) : TS E := x.2.2.2.2.1
def xL (x : Ix) : List (Int × E) := x.2.2.2.2.2.1
def xG (x : Ix) : List E := x.2.2.2.2.2.2
def tE : TS E := ⟨0, ([] : List E)⟩
def setS (x : Ix) (s : Int) : Ix := (x.1, x.2.1, (s, x.2.2.1.2), x.2.2.2)
def setT (x : Ix) (T : TS E) : Ix := (x.1, x.2.1, x.2.2.1, x.2.2.2.1, T, x.2.2.2.2.2)
def setL (x : Ix) (L : List (Int × E)) : Ix := (x.1, x.2.1, x.2.2.1, x.2.2.2.1, x.2.2.2.2.1, L, x.2.2.2.2.2.2)
def setG (x : Ix) (G : List E) : Ix := (x.1, x.2.1, x.2.2.1, x.2.2.2.1, x.2.2.2.2.1, x.2.2.2.2.2.1, G)
def xFail (x : Ix) (w : Int × Int × Int) : Ix := (x.1, x.2.1, (5, x.2.2.1.2), w, tE, [], [])
def stepT (c : Int) (e : E) (T : TS E) : TS E := if c = 0 then cutT e T else addT e T
/-- an entry comes or goes -/
def xTk (c : Int) (e : E) (x : Ix) : Ix := if xS x = 4 then setT x (stepT c e (xT x)) else if xS x < 4 ∧ e.2.2.2 < 8 * xP x then (if (xL x).length < 300 then setL x (xL x ++ [(c, e)]) else xFail x (2, (xW x).2)) else x
def LogC (I : Mm) (B : Nat) (L : List (Int × E)) : Prop := ∃ f : Nat, f < 300 ∧ rd I (B + 15) 3 = f ∧ rd I (B + 15) 2 = L.length ∧ L.length ≤ 300 ∧ ∀ j c e, L[j]? = some (c, e) → rd I (B + 18) ((f + j) % 300) = c ∧ en4 (rd I (B + 17)) ((f + j) % 300) = e ∧ (c = 0 ∨ c = 1)
def PkC (I : Mm) (B : Nat) (s : Int) (G : List E) : Prop := ∃ sz tk : Nat, (s = 1 → tk = 0) ∧ tk + G.length = sz ∧ sz ≤ 640 ∧ rd I (B + 19) 2 = sz ∧ rd I (B + 19) 3 = tk ∧ ∀ j e, G[j]? = some e → ∃ o : Nat, rd I (B + 22) (tk + j) = o ∧ o < sz ∧ en4 (rd I (B + 21)) o = e
def IxC (I : Mm) (B : Nat) (x : Ix) : Prop := rd I B 0 = xU x ∧ szOK I B ∧ (¬ xU x = 0 → rd I B 1 = xQ x ∧ kyC I B (xK x) ∧ (rd I (B + 1) 0 = (xF x).1 ∧ rd I (B + 1) 1 = (xF x).2.1 ∧ rd I (B + 1) 2 = (xF x).2.2) ∧ (rd I B 4 = xS x ∧ rd I B 5 = xP x) ∧ (rd I B 6 = (xW x).1 ∧ rd I B 7 = (xW x).2.1 ∧ rd I B 8 = (xW x).2.2) ∧ TreeC I B (xT x) ∧ LogC I B (xL x) ∧ PkC I B (xS x) (xG x))
theorem logC_cg {I J : Mm} {B : Nat} {L : List (Int × E)} (h5 : J (B + 15) = I (B + 15)) (h7 : J (B + 17) = I (B + 17)) (h8 : J (B + 18) = I (B + 18)) (h : LogC I B L) : LogC J B L := by
  obtain ⟨f, a1, a2, a3, a4, a5⟩ := h
  have e : rd J (B + 17) = rd I (B + 17) := funext (fun k => rd_of h7 k)
  exact ⟨f, a1, by rw [rd_of h5]; exact a2, by rw [rd_of h5]; exact a3, a4, fun j c e' hj => by rw [rd_of h8, e]; exact a5 j c e' hj⟩
theorem pkC_cg {I J : Mm} {B : Nat} {s : Int} {G : List E} (h9 : J (B + 19) = I (B + 19)) (h1 : J (B + 21) = I (B + 21)) (h2 : J (B + 22) = I (B + 22)) (h : PkC I B s G) : PkC J B s G := by
  obtain ⟨sz, tk, a0, a1, a2, a3, a4, a5⟩ := h
  have e : rd J (B + 21) = rd I (B + 21) := funext (fun k => rd_of h1 k)
  exact ⟨sz, tk, a0, a1, a2, by rw [rd_of h9]; exact a3, by rw [rd_of h9]; exact a4, fun j e' hj => by rw [rd_of h2, e]; exact a5 j e' hj⟩
theorem kyC_cg {I J : Mm} {B : Nat} {k : Ky} (h0 : J B = I B) (h1 : J (B + 1) = I (B + 1)) (h : kyC I B k) : kyC J B k := ⟨by rw [rd_of h0]; exact h.1, fun j hj => by rw [rd_of h1]; exact h.2 j hj⟩
theorem ixC_fr {I J : Mm} {B : Nat} {x : Ix} (h : ∀ c, B ≤ c → c ≤ B + 23 → J c = I c) (hx : IxC I B x) : IxC J B x := by
  obtain ⟨a1, a2, a3⟩ := hx
  have h0 : J B = I B := h _ (by omega) (by omega)
  refine ⟨by rw [rd_of h0]; exact a1, szOK_cg (h _ (by omega) (by omega)) a2, fun z => ?_⟩
  obtain ⟨b1, b2, b3, b4, b5, b6, b7, b8⟩ := a3 z
  have h1 : J (B + 1) = I (B + 1) := h _ (by omega) (by omega)
  exact ⟨by rw [rd_of h0]; exact b1, kyC_cg h0 h1 b2, by rw [rd_of h1, rd_of h1, rd_of h1]; exact b3, by rw [rd_of h0, rd_of h0]; exact b4, by rw [rd_of h0, rd_of h0, rd_of h0]; exact b5, treeC_fr (fun c c1 c2 => h c (by omega) (by omega)) b6, logC_cg (h _ (by omega) (by omega)) (h _ (by omega) (by omega)) (h _ (by omega) (by omega)) b7, pkC_cg (h _ (by omega) (by omega)) (h _ (by omega) (by omega)) (h _ (by omega) (by omega)) b8⟩
set_option maxHeartbeats 1000000 in
theorem c_forget {B : Nat} {I : Mm} {K : Mm → Prop} (hB : isX B) (hsz : szOK I B)
    (hK : ∀ I' : Mm, (∀ c, c ≠ B + 2 → c ≠ B + 5 → c ≠ B + 7 → c ≠ B + 8 → c ≠ B + 9 → c ≠ B + 15 → c ≠ B + 19 → I' c = I c) → szOK I' B → TreeC I' B tE → LogC I' B [] → (∀ s, PkC I' B s []) → K I') : CallV 15 [.inr (2, B, 0)] I K := by
  refine callV_of rfl (b_forget hB ?_)
  refine c_empty hB hsz ?_
  intro I1 f1 f2 I2 e2 I3 e3 I4 e4 I5 e5
  have q : ∀ c, c ≠ B + 15 → c ≠ B + 19 → I5 c = I1 c := fun c c1 c2 => by rw [e5, wt_a _ _ _ _ c2, e4, wt_a _ _ _ _ c2, e3, wt_a _ _ _ _ c1, e2, wt_a _ _ _ _ c1]
  have tr : TreeC I5 B tE := treeC_fr (fun c c1 c2 => q c (by omega) (by omega)) f2
  refine hK I5 (fun c c2 c5 c7 c8 c9 c15 c19 => by rw [q c c15 c19, f1 c c2 c5 c7 c8 c9]) ?_ tr ⟨0, by omega, ?_, ?_, by simp, fun j c e hj => by simp at hj⟩ (fun s => ⟨0, 0, fun _ => rfl, rfl, by omega, ?_, ?_, fun j e hj => by simp at hj⟩)
  · obtain ⟨r, hC, _⟩ := tr
    exact hC.1
  · rw [e5, rd_wt_a _ _ _ _ (by omega), e4, rd_wt_a _ _ _ _ (by omega), e3, rd_wt_s _ _ _ ⟨by omega, by omega⟩]; rfl
  · rw [e5, rd_wt_a _ _ _ _ (by omega), e4, rd_wt_a _ _ _ _ (by omega), e3, rd_wt_k _ _ _ _ (by omega), e2, rd_wt_s _ _ _ ⟨by omega, by omega⟩]; rfl
  · rw [e5, rd_wt_k _ _ _ _ (by omega), e4, rd_wt_s _ _ _ ⟨by omega, by omega⟩]; rfl
  · rw [e5, rd_wt_s _ _ _ ⟨by omega, by omega⟩]; rfl
/-- nothing changes off an index -/
def XFr (I J : Mm) (B : Nat) : Prop := ∀ c, (c < B ∨ B + 24 < c) → J c = I c
set_option maxHeartbeats 1000000 in
theorem c_failC {B : Nat} {I : Mm} {K : Mm → Prop} {re : Int} {fa : Nat} {x : Ix} (hB : isX B) (hre : inR re) (hU : xU x = 1) (hx : IxC I B x)
    (hK : ∀ I' : Mm, XFr I I' B → IxC I' B (xFail x (re, (xW x).2)) → K I') : CallV 24 [.inr (2, B, 0), .inl (fa, re)] I K := by
  obtain ⟨a1, a2, a3⟩ := hx
  obtain ⟨b1, b2, b3, b4, b5, b6, b7, b8⟩ := a3 (by omega)
  refine callV_fl (as' := [.inr (2, B, 0), .inl (1, re)]) rfl ?_
  refine callV_of rfl (b_failC hB hre ?_)
  intro I1 e1 I2 e2
  have q : ∀ c, c ≠ B → I2 c = I c := fun c c1 => by rw [e2, wt_a _ _ _ _ c1, e1, wt_a _ _ _ _ c1]
  refine c_forget hB (szOK_cg (q _ (by omega)) a2) ?_
  intro I3 f1 f2 f3 f4 f5
  have qB : I3 B = I2 B := f1 _ (by omega) (by omega) (by omega) (by omega) (by omega) (by omega) (by omega)
  have q1 : I3 (B + 1) = I (B + 1) := by rw [f1 _ (by omega) (by omega) (by omega) (by omega) (by omega) (by omega) (by omega), q _ (by omega)]
  have s : ∀ k, k ≠ 4 → k ≠ 6 → rd I3 B k = rd I B k := fun k k4 k6 => by rw [rd_of qB, e2, rd_wt_k _ _ _ _ k6, e1, rd_wt_k _ _ _ _ k4]
  refine hK I3 (fun c hc => by rw [f1 c (by omega) (by omega) (by omega) (by omega) (by omega) (by omega) (by omega), q c (by omega)]) ⟨by rw [s 0 (by omega) (by omega)]; exact a1, f2, fun _ => ⟨by rw [s 1 (by omega) (by omega)]; exact b1, ⟨by rw [s 2 (by omega) (by omega)]; exact b2.1, fun j hj => by rw [rd_of q1]; exact b2.2 j hj⟩, by rw [rd_of q1, rd_of q1, rd_of q1]; exact b3, ⟨?_, by rw [s 5 (by omega) (by omega)]; exact b4.2⟩, ⟨?_, by rw [s 7 (by omega) (by omega)]; exact b5.2.1, by rw [s 8 (by omega) (by omega)]; exact b5.2.2⟩, f3, f4, f5 _⟩⟩
  · rw [rd_of qB, e2, rd_wt_k _ _ _ _ (by omega), e1, rd_wt_s _ _ _ ⟨by omega, by omega⟩]; rfl
  · rw [rd_of qB, e2, rd_wt_s _ _ _ hre]; rfl
def xStart (un : Int) (k : Ky) (f : Int × Int × Int) : Ix := ((1, un), (k, f), (1, 0), (0, -1, -1), tE, [], [])
def keyOf (a b c : Int) : Ky := (if b = -1 then 1 else if c = -1 then 2 else 3, fun j => if j = 0 then a.toNat else if j = 1 then b.toNat else c.toNat)
set_option maxHeartbeats 2000000 in
theorem c_start {B : Nat} {I : Mm} {K : Mm → Prop} {a b c un : Int} {fa fb fc fd : Nat} (hB : isX B) (hsz : szOK I B) (ha : 0 ≤ a ∧ a < 4) (hb : -1 ≤ b ∧ b < 4) (hc : -1 ≤ c ∧ c < 4) (hbc : b = -1 → c = -1) (hun : un = 0 ∨ un = 1)
    (hK : ∀ I' : Mm, XFr I I' B → IxC I' B (xStart un (keyOf a b c) (a, b, c)) → K I') : CallV 14 [.inr (2, B, 0), .inl (fa, a), .inl (fb, b), .inl (fc, c), .inl (fd, un)] I K := by
  refine callV_fl (as' := [.inr (2, B, 0), .inl (1, a), .inl (1, b), .inl (1, c), .inl (1, un)]) rfl ?_
  refine callV_of rfl (b_start hB ⟨by omega, by omega⟩ ⟨by omega, by omega⟩ ⟨by omega, by omega⟩ ⟨by omega, by omega⟩ ?_)
  intro I1 e1
  refine ⟨hun, ?_⟩
  intro I2 e2
  refine ⟨by omega, ?_⟩
  intro I3 e3
  refine ⟨by omega, ?_⟩
  intro I4 e4
  refine ⟨by omega, ?_⟩
  intro I5 e5
  have fin : ∀ (n : Nat) (J0 J1 J2 J3 J4 J5 : Mm), n = (keyOf a b c).1 → J0 = wt I5 B 2 n → J1 = wt J0 B 4 1 → J2 = wt J1 B 5 0 → J3 = wt J2 B 6 0 → J4 = wt J3 B 7 (-1) → J5 = wt J4 B 8 (-1) → CallV 15 [.inr (2, B, 0)] J5 (fun I6 => rV K none I6) := by
    intro n J0 J1 J2 J3 J4 J5 hn d0 d1 d2 d3 d4 d5
    have n3 : n ≤ 3 := by
      rw [hn]; unfold keyOf
      show (if b = -1 then 1 else if c = -1 then 2 else 3) ≤ 3
      split
      · omega
      · split <;> omega
    have q : ∀ c', c' ≠ B → c' ≠ B + 1 → J5 c' = I c' := fun c' c0 c1 => by rw [d5, wt_a _ _ _ _ c0, d4, wt_a _ _ _ _ c0, d3, wt_a _ _ _ _ c0, d2, wt_a _ _ _ _ c0, d1, wt_a _ _ _ _ c0, d0, wt_a _ _ _ _ c0, e5, wt_a _ _ _ _ c1, e4, wt_a _ _ _ _ c1, e3, wt_a _ _ _ _ c1, e2, wt_a _ _ _ _ c0, e1, wt_a _ _ _ _ c0]
    have q1 : J5 (B + 1) = I5 (B + 1) := by rw [d5, wt_a _ _ _ _ (by omega), d4, wt_a _ _ _ _ (by omega), d3, wt_a _ _ _ _ (by omega), d2, wt_a _ _ _ _ (by omega), d1, wt_a _ _ _ _ (by omega), d0, wt_a _ _ _ _ (by omega)]
    have v0 : rd I5 (B + 1) 0 = a := by rw [e5, rd_wt_k _ _ _ _ (by omega), e4, rd_wt_k _ _ _ _ (by omega), e3, rd_wt_s _ _ _ ⟨by omega, by omega⟩]
    have v1 : rd I5 (B + 1) 1 = b := by rw [e5, rd_wt_k _ _ _ _ (by omega), e4, rd_wt_s _ _ _ ⟨by omega, by omega⟩]
    have v2 : rd I5 (B + 1) 2 = c := by rw [e5, rd_wt_s _ _ _ ⟨by omega, by omega⟩]
    have low : ∀ k, k < 2 → rd J5 B k = rd I2 B k := fun k hk => by rw [d5, rd_wt_k _ _ _ _ (by omega), d4, rd_wt_k _ _ _ _ (by omega), d3, rd_wt_k _ _ _ _ (by omega), d2, rd_wt_k _ _ _ _ (by omega), d1, rd_wt_k _ _ _ _ (by omega), d0, rd_wt_k _ _ _ _ (by omega), e5, rd_wt_a _ _ _ _ (by omega), e4, rd_wt_a _ _ _ _ (by omega), e3, rd_wt_a _ _ _ _ (by omega)]
    refine c_forget hB (szOK_cg (q _ (by omega) (by omega)) hsz) ?_
    intro I6 f1 f2 f3 f4 f5
    have pB : I6 B = J5 B := f1 _ (by omega) (by omega) (by omega) (by omega) (by omega) (by omega) (by omega)
    have p1 : I6 (B + 1) = I5 (B + 1) := by rw [f1 _ (by omega) (by omega) (by omega) (by omega) (by omega) (by omega) (by omega), q1]
    refine hK I6 (fun c' hc' => by rw [f1 c' (by omega) (by omega) (by omega) (by omega) (by omega) (by omega) (by omega), q c' (by omega) (by omega)]) ⟨?_, f2, fun _ => ⟨?_, ⟨?_, fun j hj => ?_⟩, ⟨by rw [rd_of p1, v0]; rfl, by rw [rd_of p1, v1]; rfl, by rw [rd_of p1, v2]; rfl⟩, ⟨?_, ?_⟩, ⟨?_, ?_, ?_⟩, f3, f4, f5 _⟩⟩
    · rw [rd_of pB, low 0 (by omega), e2, rd_wt_k _ _ _ _ (by omega), e1, rd_wt_s _ _ _ ⟨by omega, by omega⟩]; rfl
    · rw [rd_of pB, low 1 (by omega), e2, rd_wt_s _ _ _ ⟨by omega, by omega⟩]; rfl
    · rw [rd_of pB, d5, rd_wt_k _ _ _ _ (by omega), d4, rd_wt_k _ _ _ _ (by omega), d3, rd_wt_k _ _ _ _ (by omega), d2, rd_wt_k _ _ _ _ (by omega), d1, rd_wt_k _ _ _ _ (by omega), d0, rd_wt_s _ _ _ (inRn (by omega)), hn]; rfl
    · rw [rd_of p1]
      have hj' : j < (keyOf a b c).1 := hj
      rw [← hn] at hj'
      show rd I5 (B + 1) j = ((keyOf a b c).2 j : Nat)
      have jn : j < (if b = -1 then 1 else if c = -1 then 2 else 3) := hj
      rcases j with _ | _ | _ | j
      · rw [v0]; show a = (a.toNat : Int); omega
      · rw [v1]
        show b = (b.toNat : Int)
        by_cases cb : b = -1
        · rw [if_pos cb] at jn; omega
        · omega
      · rw [v2]
        show c = (c.toNat : Int)
        by_cases cb : b = -1
        · rw [if_pos cb] at jn; omega
        · rw [if_neg cb] at jn
          by_cases cc : c = -1
          · rw [if_pos cc] at jn; omega
          · omega
      · omega
    · rw [rd_of pB, d5, rd_wt_k _ _ _ _ (by omega), d4, rd_wt_k _ _ _ _ (by omega), d3, rd_wt_k _ _ _ _ (by omega), d2, rd_wt_k _ _ _ _ (by omega), d1, rd_wt_s _ _ _ ⟨by omega, by omega⟩]; rfl
    · rw [rd_of pB, d5, rd_wt_k _ _ _ _ (by omega), d4, rd_wt_k _ _ _ _ (by omega), d3, rd_wt_k _ _ _ _ (by omega), d2, rd_wt_s _ _ _ ⟨by omega, by omega⟩]; rfl
    · rw [rd_of pB, d5, rd_wt_k _ _ _ _ (by omega), d4, rd_wt_k _ _ _ _ (by omega), d3, rd_wt_s _ _ _ ⟨by omega, by omega⟩]; rfl
    · rw [rd_of pB, d5, rd_wt_k _ _ _ _ (by omega), d4, rd_wt_s _ _ _ ⟨by omega, by omega⟩]; rfl
    · rw [rd_of pB, d5, rd_wt_s _ _ _ ⟨by omega, by omega⟩]; rfl
  refine ⟨fun z => ?_, fun z => ⟨fun z2 => ?_, fun z2 => ?_⟩⟩
  · intro J0 d0 J1 d1 J2 d2 J3 d3 J4 d4 J5 d5
    exact fin 1 J0 J1 J2 J3 J4 J5 (by unfold keyOf; exact (if_pos z).symm) d0 d1 d2 d3 d4 d5
  · intro J0 d0 J1 d1 J2 d2 J3 d3 J4 d4 J5 d5
    exact fin 2 J0 J1 J2 J3 J4 J5 (by unfold keyOf; exact ((if_neg z).trans (if_pos z2)).symm) d0 d1 d2 d3 d4 d5
  · intro J0 d0 J1 d1 J2 d2 J3 d3 J4 d4 J5 d5
    exact fin 3 J0 J1 J2 J3 J4 J5 (by unfold keyOf; exact ((if_neg z).trans (if_neg z2)).symm) d0 d1 d2 d3 d4 d5
theorem mod_ne {f a b : Nat} (ha : a < 300) (hb : b < 300) (h : a ≠ b) : (f + a) % 300 ≠ (f + b) % 300 := by omega
set_option maxHeartbeats 2000000 in
/-- the made entry comes or goes, class -/
theorem c_takeMade {B : Nat} {I : Mm} {K : Mm → Prop} {cm : Int} {fa : Nat} {x : Ix} {e : E} (hB : isX B) (hcm : cm = 0 ∨ cm = 1) (hU : xU x = 1) (hx : IxC I B x) (hg : good (xT x)) (hl : (lsT (xT x)).length ≤ 647) (hP : xP x ≤ 40) (he : en4 (rd I (B + 24)) 0 = e)
    (hK : ∀ I' : Mm, XFr I I' B → IxC I' B (xTk cm e x) → K I') : CallV 23 [.inr (2, B, 0), .inl (fa, cm)] I K := by
  have hx0 := hx
  obtain ⟨a1, a2, a3⟩ := hx
  obtain ⟨b1, b2, b3, b4, b5, b6, b7, b8⟩ := a3 (by omega)
  have hb := isX_62 hB
  have e3 : rd I (B + 24) 3 = e.2.2.2 := by rw [← he]; rfl
  refine callV_fl (as' := [.inr (2, B, 0), .inl (1, cm)]) rfl ?_
  refine callV_of rfl (b_takeMade hB ⟨by omega, by omega⟩ ?_)
  rw [b4.1]
  refine ⟨fun z => ?_, fun z => ?_⟩
  · -- the tree has it
    have tk : xTk cm e x = setT x (stepT cm e (xT x)) := if_pos z
    rw [tk] at hK
    have fin : ∀ I' : Mm, (∀ c, c ≠ B + 2 → c ≠ B + 4 → c ≠ B + 5 → c ≠ B + 6 → c ≠ B + 7 → c ≠ B + 8 → c ≠ B + 9 → c ≠ B + 10 → c ≠ B + 11 → I' c = I c) → TreeC I' B (stepT cm e (xT x)) → K I' := by
      intro I' f1 f2
      have h0 : I' B = I B := f1 _ (by omega) (by omega) (by omega) (by omega) (by omega) (by omega) (by omega) (by omega) (by omega)
      have h1 : I' (B + 1) = I (B + 1) := f1 _ (by omega) (by omega) (by omega) (by omega) (by omega) (by omega) (by omega) (by omega) (by omega)
      have hi : ∀ c, B + 12 ≤ c → I' c = I c := fun c hc => f1 c (by omega) (by omega) (by omega) (by omega) (by omega) (by omega) (by omega) (by omega) (by omega)
      have sz : szOK I' B := by
        obtain ⟨r, hC, _⟩ := f2
        exact hC.1
      exact hK I' (fun c hc => f1 c (by omega) (by omega) (by omega) (by omega) (by omega) (by omega) (by omega) (by omega) (by omega)) ⟨by rw [rd_of h0]; exact a1, sz, fun _ => ⟨by rw [rd_of h0]; exact b1, kyC_cg h0 h1 b2, by rw [rd_of h1, rd_of h1, rd_of h1]; exact b3, by rw [rd_of h0, rd_of h0]; exact b4, by rw [rd_of h0, rd_of h0, rd_of h0]; exact b5, f2, logC_cg (hi _ (by omega)) (hi _ (by omega)) (hi _ (by omega)) b7, pkC_cg (hi _ (by omega)) (hi _ (by omega)) (hi _ (by omega)) b8⟩⟩
    refine ⟨fun c0 => ?_, fun c0 => ?_⟩
    · refine callV_fl (as' := [.inr (2, B, 2), .inr (2, B, 23), .inl (1, ((0 : Nat) : Int))]) rfl ?_
      refine c_cut_23 hB (by omega) b6 hg (by omega) ?_
      intro I' f1 f2
      rw [he] at f2
      refine fin I' (fun c k2 k4 k5 k6 k7 k8 k9 k10 k11 => f1 c k2 k5 k6 k7 k8 k9 k10 k11) ?_
      unfold stepT
      rw [if_pos c0]
      exact f2
    · refine callV_fl (as' := [.inr (2, B, 2), .inr (2, B, 23), .inl (1, ((0 : Nat) : Int))]) rfl ?_
      refine c_add_23 hB (by omega) b6 hg hl ?_
      intro I' f1 f2
      rw [he] at f2
      refine fin I' (fun c k2 k4 k5 k6 k7 k8 k9 k10 k11 => f1 c k2 k4 k6 k7 k8 k10 k11) ?_
      unfold stepT
      rw [if_neg c0]
      exact f2
  · refine ⟨fun z0 => absurd z0 (by rw [a1]; omega), fun _ => ⟨fun z4 => ?_, fun z4 => ⟨by omega, fun z8 => ?_, fun z8 => ?_⟩⟩⟩
    · have tk : xTk cm e x = x := (if_neg z).trans (if_neg (fun c => absurd c.1 (by omega)))
      rw [tk] at hK
      exact hK I (fun _ _ => rfl) hx0
    · rw [b4.2, wrn (8 * xP x) (by omega) (by omega), e3] at z8
      have tk : xTk cm e x = x := (if_neg z).trans (if_neg (fun c => absurd c.2 (by omega)))
      rw [tk] at hK
      exact hK I (fun _ _ => rfl) hx0
    · rw [b4.2, wrn (8 * xP x) (by omega) (by omega), e3] at z8
      have hcond : xS x < 4 ∧ e.2.2.2 < 8 * (xP x : Int) := ⟨by omega, by omega⟩
      obtain ⟨f, l1, l2, l3, l4, l5⟩ := b7
      rw [l3]
      refine ⟨fun zl => ⟨fun _ => ?_, fun c => absurd zl c⟩, fun zl => ?_⟩
      · have ll : (xL x).length < 300 := by omega
        have tk : xTk cm e x = setL x (xL x ++ [(cm, e)]) := (if_neg z).trans ((if_pos hcond).trans (if_pos ll))
        rw [tk] at hK
        have wv : wr ((f : Int) + ((xL x).length : Int)) = ((f + (xL x).length : Nat) : Int) := wrn _ (by omega) (by omega)
        rw [l2, wv]
        refine ⟨by omega, ?_⟩
        intro v4 ev4 iv4
        obtain ⟨v, hv⟩ : ∃ v : Nat, v = (f + (xL x).length) % 300 := ⟨_, rfl⟩
        have ev : v4 = (v : Int) := by rw [ev4, hv]; rfl
        subst ev
        have v300 : v < 300 := by omega
        rw [wrn (4 * v) (by omega) (by omega), Int.toNat_natCast]
        refine ⟨by omega, ?_⟩
        intro I1 e1
        refine ⟨by omega, hcm, ?_⟩
        intro I2 e2
        have r2 : rd I2 (B + 15) 2 = (xL x).length := by rw [e2, rd_wt_a _ _ _ _ (by omega), e1, rd_cp_a _ _ _ _ _ _ (by omega), l3]
        rw [r2]
        intro I3 e3'
        have q : ∀ c, c ≠ B + 15 → c ≠ B + 17 → c ≠ B + 18 → I3 c = I c := fun c k5 k7 k8 => by rw [e3', wt_a _ _ _ _ k5, e2, wt_a _ _ _ _ k8, e1, cp_a _ _ _ _ _ _ k7]
        have h0 : I3 B = I B := q _ (by omega) (by omega) (by omega)
        have h1 : I3 (B + 1) = I (B + 1) := q _ (by omega) (by omega) (by omega)
        have q18 : ∀ j, rd I3 (B + 18) j = if j = v then cm else rd I (B + 18) j := fun j => by
          rw [e3', rd_wt_a _ _ _ _ (by omega), e2, rd_wt, if_pos rfl, wrx (by omega) (by omega), e1, rd_cp_a _ _ _ _ _ _ (by omega), Int.toNat_natCast]
        have q17 : ∀ j, rd I3 (B + 17) j = if 4 * v ≤ j ∧ j < 4 * v + 4 then rd I (B + 24) (j - 4 * v) else rd I (B + 17) j := fun j => by
          rw [e3', rd_wt_a _ _ _ _ (by omega), e2, rd_wt_a _ _ _ _ (by omega), e1, rd_cp, if_pos rfl]
          by_cases c : 4 * v ≤ j ∧ j < 4 * v + 4
          · rw [if_pos c, if_pos c, Nat.zero_add]
          · rw [if_neg c, if_neg c]
        refine hK I3 (fun c hc => q c (by omega) (by omega) (by omega)) ⟨by rw [rd_of h0]; exact a1, szOK_cg (q _ (by omega) (by omega) (by omega)) a2, fun _ => ⟨by rw [rd_of h0]; exact b1, kyC_cg h0 h1 b2, by rw [rd_of h1, rd_of h1, rd_of h1]; exact b3, by rw [rd_of h0, rd_of h0]; exact b4, by rw [rd_of h0, rd_of h0, rd_of h0]; exact b5, treeC_fr (fun c c1 c2 => q c (by omega) (by omega) (by omega)) b6, ?_, pkC_cg (q _ (by omega) (by omega) (by omega)) (q _ (by omega) (by omega) (by omega)) (q _ (by omega) (by omega) (by omega)) b8⟩⟩
        show LogC I3 B (xL x ++ [(cm, e)])
        refine ⟨f, l1, by rw [e3', rd_wt_k _ _ _ _ (by omega), e2, rd_wt_a _ _ _ _ (by omega), e1, rd_cp_a _ _ _ _ _ _ (by omega), l2], by rw [e3', rd_wt_s _ _ _ ⟨by omega, by omega⟩]; simp, by simp; omega, fun j c e' hj => ?_⟩
        by_cases cj : j < (xL x).length
        · rw [List.getElem?_append_left cj] at hj
          obtain ⟨m1, m2, m3⟩ := l5 j c e' hj
          have ne : (f + j) % 300 ≠ v := by rw [hv]; exact mod_ne (by omega) ll (by omega)
          have lt : (f + j) % 300 < 300 := Nat.mod_lt _ (by omega)
          refine ⟨by rw [q18, if_neg ne]; exact m1, ?_, m3⟩
          rw [← m2]
          unfold en4
          rw [q17, q17, q17, q17, if_neg (by omega), if_neg (by omega), if_neg (by omega), if_neg (by omega)]
        · have ej : j = (xL x).length := by
            have := (List.getElem?_eq_some_iff.mp hj).1
            simp at this
            omega
          subst ej
          simp at hj
          obtain ⟨rfl, rfl⟩ := hj
          rw [← hv]
          refine ⟨by rw [q18, if_pos rfl], ?_, hcm⟩
          rw [← he]
          unfold en4
          rw [q17, q17, q17, q17, if_pos (by omega), if_pos (by omega), if_pos (by omega), if_pos (by omega), show 4 * v - 4 * v = 4 * 0 by omega, show 4 * v + 1 - 4 * v = 4 * 0 + 1 by omega, show 4 * v + 2 - 4 * v = 4 * 0 + 2 by omega, show 4 * v + 3 - 4 * v = 4 * 0 + 3 by omega]
      · have tk : xTk cm e x = xFail x (2, (xW x).2) := (if_neg z).trans ((if_pos hcond).trans (if_neg (by omega)))
        rw [tk] at hK
        exact c_failC hB ⟨by omega, by omega⟩ hU hx0 hK
