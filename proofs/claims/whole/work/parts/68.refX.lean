/-! THE REFERENCE's rows, keys, indexes -/
def imG (I : Mm) (a f x y : Nat) : Im := if rd I f x = 0 then none else some (rd I a (4 * y), rd I a (4 * y + 1), rd I a (4 * y + 2), rd I a (4 * y + 3))
theorem imG_none {I : Mm} {a f x y : Nat} (h : rd I f x = 0) : imG I a f x y = none := if_pos h
theorem imG_ex {I : Mm} {a f x y : Nat} (h : ¬ rd I f x = 0) : ∃ z, imG I a f x y = some z := ⟨_, if_neg h⟩
theorem imG_fv {I : Mm} {a f x y g : Nat} {z : F4} (h : imG I a f x y = some z) (hg : g < 4) : rd I a (4 * y + g) = fv z g := by
  unfold imG at h
  by_cases c : rd I f x = 0
  · rw [if_pos c] at h; cases h
  · rw [if_neg c] at h
    cases h
    rcases g with _ | _ | _ | _ | g
    · rfl
    · rfl
    · rfl
    · rfl
    · omega
theorem imG_1 {I : Mm} {a f x y : Nat} {z : F4} (h : imG I a f x y = some z) : ¬ rd I f x = 0 := fun c => by rw [imG_none c] at h; cases h
theorem imG_0 {I : Mm} {a f x y : Nat} (h : imG I a f x y = none) : rd I f x = 0 := by
  by_cases c : rd I f x = 0
  · exact c
  · obtain ⟨z, hz⟩ := imG_ex (a := a) (y := y) c
    rw [h] at hz; cases hz
theorem imG_cp {I J : Mm} {a f x y a' f' x' y' : Nat} (hf : rd J f' x' = rd I f x) (h : ∀ g, g < 4 → rd J a' (4 * y' + g) = rd I a (4 * y + g)) : imG J a' f' x' y' = imG I a f x y := by
  have h0 : rd J a' (4 * y') = rd I a (4 * y) := h 0 (by omega)
  unfold imG
  rw [hf, h0, h 1 (by omega), h 2 (by omega), h 3 (by omega)]
theorem imG_cg {I J : Mm} {a f x y : Nat} (ha : J a = I a) (hf : rd J f x = rd I f x) : imG J a f x y = imG I a f x y := imG_cp hf (fun g _ => rd_of ha _)
/-- committed, current; before; of a record; tried -/
def imR (I : Mm) (a p : Nat) : Im := imG I a (a + 2) p p
def imB (I : Mm) (b : Nat) : Im := imG I 255 212 (49 + b) b
def imQ (I : Mm) (r : Nat) : Im := imG I 222 221 r r
theorem imR_cg {I J : Mm} {a : Nat} (h1 : J a = I a) (h2 : J (a + 2) = I (a + 2)) (p : Nat) : imR J a p = imR I a p := imG_cg h1 (rd_of h2 _)
def bl (x : Int) : Prop := x = 0 ∨ x = 1
def RowR (I : Mm) (w : Rw) : Prop := ∀ p, p < 320 → imR I 213 p = w.1 p ∧ imR I 214 p = w.2.1 p ∧ rd I 217 p = w.2.2 p ∧ bl (rd I 215 p) ∧ bl (rd I 216 p)
theorem rowR_cg {I J : Mm} {w : Rw} (h : ∀ c, 213 ≤ c → c ≤ 217 → J c = I c) (hw : RowR I w) : RowR J w := fun p hp => by
  obtain ⟨a, b, c, d, e⟩ := hw p hp
  exact ⟨by rw [imR_cg (h _ (by omega) (by omega)) (h _ (by omega) (by omega))]; exact a, by rw [imR_cg (h _ (by omega) (by omega)) (h _ (by omega) (by omega))]; exact b, by rw [rd_of (h _ (by omega) (by omega))]; exact c, by rw [rd_of (h _ (by omega) (by omega))]; exact d, by rw [rd_of (h _ (by omega) (by omega))]; exact e⟩
def kyR (I : Mm) (i : Nat) (k : Ky) : Prop := rd I 225 i = k.1 ∧ ∀ j, j < k.1 → rd I 226 (3 * i + j) = k.2 j
def lgE (I : Mm) (q : Nat) : E := (rd I 235 (3 * q), rd I 235 (3 * q + 1), rd I 235 (3 * q + 2), rd I 236 q)
def pkE (I : Mm) (q : Nat) : E := (rd I 239 (3 * q), rd I 239 (3 * q + 1), rd I 239 (3 * q + 2), rd I 240 q)
def LogR (I : Mm) (i : Nat) (L : List (Int × E)) : Prop := rd I 233 i = L.length ∧ L.length ≤ 300 ∧ ∀ j c e, L[j]? = some (c, e) → rd I 234 (300 * i + j) = c ∧ lgE I (300 * i + j) = e ∧ bl c
def PkR (I : Mm) (i : Nat) (s : Int) (G : List E) : Prop := (s = 1 ∨ s = 2) → ∃ tk : Nat, (s = 1 → tk = 0) ∧ tk + G.length ≤ 640 ∧ rd I 237 i = ((tk + G.length : Nat) : Int) ∧ rd I 238 i = tk ∧ ∀ j e, G[j]? = some e → pkE I (640 * i + tk + j) = e
def IxR (I : Mm) (i : Nat) (x : Ix) : Prop := rd I 224 i = xU x ∧ (¬ xU x = 0 → rd I 227 i = xQ x ∧ kyR I i (xK x) ∧ (rd I 226 (3 * i) = (xF x).1 ∧ rd I 226 (3 * i + 1) = (xF x).2.1 ∧ rd I 226 (3 * i + 2) = (xF x).2.2) ∧ (rd I 228 i = xS x ∧ rd I 229 i = xP x) ∧ (rd I 230 i = (xW x).1 ∧ rd I 231 i = (xW x).2.1 ∧ rd I 232 i = (xW x).2.2) ∧ TreeR I i (xT x) ∧ LogR I i (xL x) ∧ PkR I i (xS x) (xG x))
/-- what belongs to an index -/
def own (i c k : Nat) : Prop := if c = 226 then 3 * i ≤ k ∧ k < 3 * i + 3 else if c = 234 ∨ c = 236 then 300 * i ≤ k ∧ k < 300 * i + 300 else if c = 235 then 900 * i ≤ k ∧ k < 900 * i + 900 else if c = 240 then 640 * i ≤ k ∧ k < 640 * i + 640 else if c = 239 then 1920 * i ≤ k ∧ k < 1920 * i + 1920 else k = i
def OwnR (I J : Mm) (i : Nat) : Prop := ∀ c k, 224 ≤ c → c ≤ 240 → ¬ own i c k → rd J c k = rd I c k
theorem ownR_wt {I : Mm} {i c k : Nat} {x : Int} (h : own i c k) : OwnR I (wt I c k x) i := fun c' k' _ _ hn => by
  by_cases e : c' = c
  · subst e
    rw [rd_wt_k _ _ _ _ (fun z => hn (by rw [z]; exact h))]
  · rw [rd_wt_a _ _ _ _ e]
theorem ownR_tr {I J L : Mm} {i : Nat} (h1 : OwnR I J i) (h2 : OwnR J L i) : OwnR I L i := fun c k a b n => by rw [h2 c k a b n, h1 c k a b n]
theorem ownR_of {I J : Mm} {i : Nat} (h : ∀ c, 224 ≤ c → c ≤ 240 → J c = I c) : OwnR I J i := fun c k a b _ => rd_of (h c a b) k
theorem ow_d {i c k : Nat} (h : k = i) (h1 : c ≠ 226) (h2 : c ≠ 234) (h3 : c ≠ 236) (h4 : c ≠ 235) (h5 : c ≠ 240) (h6 : c ≠ 239) : own i c k := by
  unfold own
  rw [if_neg h1, if_neg (by omega), if_neg h4, if_neg h5, if_neg h6]; exact h
/-- all that an index says, at the cells that belong to it -/
def EqR (I J : Mm) (i : Nat) : Prop := ∀ c k, 224 ≤ c → c ≤ 240 → own i c k → rd J c k = rd I c k
theorem own_ne {i j c k : Nat} (h : own j c k) (hn : j ≠ i) : ¬ own i c k := by
  unfold own at h ⊢
  split at h
  · rw [if_pos (by assumption)]; omega
  · rw [if_neg (by assumption)]
    split at h
    · rw [if_pos (by assumption)]; omega
    · rw [if_neg (by assumption)]
      split at h
      · rw [if_pos (by assumption)]; omega
      · rw [if_neg (by assumption)]
        split at h
        · rw [if_pos (by assumption)]; omega
        · rw [if_neg (by assumption)]
          split at h
          · rw [if_pos (by assumption)]; omega
          · rw [if_neg (by assumption)]; omega
theorem ow_226 {i k : Nat} (h : 3 * i ≤ k) (h2 : k < 3 * i + 3) : own i 226 k := by unfold own; rw [if_pos rfl]; exact ⟨h, h2⟩
theorem ow_234 {i k : Nat} (h : 300 * i ≤ k) (h2 : k < 300 * i + 300) : own i 234 k := by unfold own; rw [if_neg (by omega), if_pos (by omega)]; exact ⟨h, h2⟩
theorem ow_236 {i k : Nat} (h : 300 * i ≤ k) (h2 : k < 300 * i + 300) : own i 236 k := by unfold own; rw [if_neg (by omega), if_pos (by omega)]; exact ⟨h, h2⟩
theorem ow_235 {i k : Nat} (h : 900 * i ≤ k) (h2 : k < 900 * i + 900) : own i 235 k := by unfold own; rw [if_neg (by omega), if_neg (by omega), if_pos rfl]; exact ⟨h, h2⟩
theorem ow_240 {i k : Nat} (h : 640 * i ≤ k) (h2 : k < 640 * i + 640) : own i 240 k := by unfold own; rw [if_neg (by omega), if_neg (by omega), if_neg (by omega), if_pos rfl]; exact ⟨h, h2⟩
theorem ow_239 {i k : Nat} (h : 1920 * i ≤ k) (h2 : k < 1920 * i + 1920) : own i 239 k := by unfold own; rw [if_neg (by omega), if_neg (by omega), if_neg (by omega), if_neg (by omega), if_pos rfl]; exact ⟨h, h2⟩
theorem kyR_eq {I J : Mm} {i : Nat} {k : Ky} (hk : k.1 ≤ 3) (h1 : rd J 225 i = rd I 225 i) (h2 : ∀ j, j < 3 → rd J 226 (3 * i + j) = rd I 226 (3 * i + j)) (h : kyR I i k) : kyR J i k := ⟨by rw [h1]; exact h.1, fun j hj => by rw [h2 j (by omega)]; exact h.2 j hj⟩
theorem logR_eq {I J : Mm} {i : Nat} {L : List (Int × E)} (h : EqR I J i) (hL : LogR I i L) : LogR J i L := by
  obtain ⟨a, b, c⟩ := hL
  refine ⟨by rw [h 233 i (by omega) (by omega) (ow_d rfl (by omega) (by omega) (by omega) (by omega) (by omega) (by omega))]; exact a, b, fun j c' e hj => ?_⟩
  have hl := (List.getElem?_eq_some_iff.mp hj).1
  obtain ⟨d1, d2, d3⟩ := c j c' e hj
  refine ⟨by rw [h 234 _ (by omega) (by omega) (ow_234 (by omega) (by omega))]; exact d1, ?_, d3⟩
  rw [← d2]
  unfold lgE
  rw [h 235 _ (by omega) (by omega) (ow_235 (by omega) (by omega)), h 235 _ (by omega) (by omega) (ow_235 (by omega) (by omega)), h 235 _ (by omega) (by omega) (ow_235 (by omega) (by omega)), h 236 _ (by omega) (by omega) (ow_236 (by omega) (by omega))]
theorem pkR_eq {I J : Mm} {i : Nat} {s : Int} {G : List E} (h : EqR I J i) (hG : PkR I i s G) : PkR J i s G := fun hs => by
  obtain ⟨tk, a, b, c, d, e⟩ := hG hs
  refine ⟨tk, a, b, by rw [h 237 i (by omega) (by omega) (ow_d rfl (by omega) (by omega) (by omega) (by omega) (by omega) (by omega))]; exact c, by rw [h 238 i (by omega) (by omega) (ow_d rfl (by omega) (by omega) (by omega) (by omega) (by omega) (by omega))]; exact d, fun j e' hj => ?_⟩
  have hl := (List.getElem?_eq_some_iff.mp hj).1
  rw [← e j e' hj]
  unfold pkE
  rw [h 239 _ (by omega) (by omega) (ow_239 (by omega) (by omega)), h 239 _ (by omega) (by omega) (ow_239 (by omega) (by omega)), h 239 _ (by omega) (by omega) (ow_239 (by omega) (by omega)), h 240 _ (by omega) (by omega) (ow_240 (by omega) (by omega))]
theorem eq_d {I J : Mm} {i c : Nat} (h : EqR I J i) (h0 : 224 ≤ c) (h00 : c ≤ 240) (h1 : c ≠ 226) (h2 : c ≠ 234) (h3 : c ≠ 236) (h4 : c ≠ 235) (h5 : c ≠ 240) (h6 : c ≠ 239) : rd J c i = rd I c i := h c i h0 h00 (ow_d rfl h1 h2 h3 h4 h5 h6)
theorem ixR_eq {I J : Mm} {i : Nat} {x : Ix} (h : EqR I J i) (hk : ¬ xU x = 0 → (xK x).1 ≤ 3) (hT : ∀ T, TreeR I i T → TreeR J i T) (hx : IxR I i x) : IxR J i x := by
  obtain ⟨a, b⟩ := hx
  refine ⟨by rw [eq_d h (by omega) (by omega) (by omega) (by omega) (by omega) (by omega) (by omega) (by omega)]; exact a, fun z => ?_⟩
  obtain ⟨b1, b2, b3, b4, b5, b6, b7, b8⟩ := b z
  have f : ∀ j, j < 3 → rd J 226 (3 * i + j) = rd I 226 (3 * i + j) := fun j hj => h 226 _ (by omega) (by omega) (ow_226 (by omega) (by omega))
  have f0 : rd J 226 (3 * i) = rd I 226 (3 * i) := f 0 (by omega)
  have d := fun c h0 h00 h1 h2 h3 h4 h5 h6 => eq_d (c := c) h h0 h00 h1 h2 h3 h4 h5 h6
  refine ⟨by rw [d 227 (by omega) (by omega) (by omega) (by omega) (by omega) (by omega) (by omega) (by omega)]; exact b1, kyR_eq (hk z) (d 225 (by omega) (by omega) (by omega) (by omega) (by omega) (by omega) (by omega) (by omega)) f b2, by rw [f0, f 1 (by omega), f 2 (by omega)]; exact b3, ?_, ?_, hT _ b6, logR_eq h b7, pkR_eq h b8⟩
  · rw [d 228 (by omega) (by omega) (by omega) (by omega) (by omega) (by omega) (by omega) (by omega), d 229 (by omega) (by omega) (by omega) (by omega) (by omega) (by omega) (by omega) (by omega)]; exact b4
  · rw [d 230 (by omega) (by omega) (by omega) (by omega) (by omega) (by omega) (by omega) (by omega), d 231 (by omega) (by omega) (by omega) (by omega) (by omega) (by omega) (by omega) (by omega), d 232 (by omega) (by omega) (by omega) (by omega) (by omega) (by omega) (by omega) (by omega)]; exact b5
/-- an index alone has changed, and what is not kept -/
def XFrR (I J : Mm) (i : Nat) : Prop := (∀ c, (c < 212 ∨ (213 ≤ c ∧ c ≤ 223) ∨ (247 ≤ c ∧ c ≤ 249) ∨ 255 ≤ c) → J c = I c) ∧ (∀ k, k ≠ 41 → k ≠ 42 → k ≠ 45 → rd J 212 k = rd I 212 k) ∧ OwnR I J i ∧ (∀ j, j < 6 → j ≠ i → ∀ T, TreeR I j T → TreeR J j T)
theorem xFrR_rfl (I : Mm) (i : Nat) : XFrR I I i := ⟨fun _ _ => rfl, fun _ _ _ _ => rfl, fun _ _ _ _ _ => rfl, fun _ _ _ _ h => h⟩
theorem xFrR_tr {I J L : Mm} {i : Nat} (h1 : XFrR I J i) (h2 : XFrR J L i) : XFrR I L i := ⟨fun c hc => by rw [h2.1 c hc, h1.1 c hc], fun k a b c => by rw [h2.2.1 k a b c, h1.2.1 k a b c], ownR_tr h1.2.2.1 h2.2.2.1, fun j a b T h => h2.2.2.2 j a b T (h1.2.2.2 j a b T h)⟩
theorem xFrR_wt {I : Mm} {i c k : Nat} {x : Int} (h1 : 224 ≤ c) (h2 : c ≤ 240) (h : own i c k) : XFrR I (wt I c k x) i := ⟨fun c' hc => wt_a _ _ _ _ (by omega), fun k' _ _ _ => rd_wt_a _ _ _ _ (by omega) _, ownR_wt h, fun j _ _ T hT => treeR_of (fun c' h1 h2 => wt_a _ _ _ _ (by omega)) hT⟩
/-- what is not kept -/
theorem xFrR_sc {I J : Mm} {i : Nat} (h : ∀ c, c ≠ 212 → c ≠ 250 → c ≠ 251 → c ≠ 252 → c ≠ 253 → c ≠ 254 → J c = I c) (h2 : ∀ k, k ≠ 41 → k ≠ 42 → k ≠ 45 → rd J 212 k = rd I 212 k) : XFrR I J i := ⟨fun c hc => h c (by omega) (by omega) (by omega) (by omega) (by omega) (by omega), h2, ownR_of (fun c a b => h c (by omega) (by omega) (by omega) (by omega) (by omega) (by omega)), fun j _ _ T hT => treeR_of (fun c a b => h c (by omega) (by omega) (by omega) (by omega) (by omega) (by omega)) hT⟩
theorem xFrR_fr {I J : Mm} {i : Nat} (hi : i < 6) (h : FrR I J i) (hc : cnOK J) : XFrR I J i := ⟨fun c hc => h.1 c (by omega) (by omega) (by omega) (by omega) (by omega) (by omega) (by omega) (by omega) (by omega) (by omega), fun k a b _ => h.2.1 k a b, ownR_of (fun c a b => h.1 c (by omega) (by omega) (by omega) (by omega) (by omega) (by omega) (by omega) (by omega) (by omega) (by omega)), fun j hj hne T hT => treeR_fr hi hj hne h hc hT⟩
theorem ixR_fr {I J : Mm} {i j : Nat} {x : Ix} (hj : j < 6) (hne : j ≠ i) (hF : XFrR I J i) (hk : ¬ xU x = 0 → (xK x).1 ≤ 3) (hx : IxR I j x) : IxR J j x := ixR_eq (fun c k a b ho => hF.2.2.1 c k a b (own_ne ho hne)) hk (hF.2.2.2 j hj hne) hx
/-- an index whose cells stand, but for its tree -/
theorem ixR_T {I J : Mm} {i : Nat} {x : Ix} {T : TS E} (h : ∀ c, 224 ≤ c → c ≤ 240 → J c = I c) (hT : TreeR J i T) (hx : IxR I i x) : IxR J i (setT x T) := by
  obtain ⟨a, b⟩ := hx
  have e : EqR I J i := fun c k h1 h2 _ => rd_of (h c h1 h2) k
  refine ⟨by rw [rd_of (h _ (by omega) (by omega))]; exact a, fun z => ?_⟩
  obtain ⟨b1, b2, b3, b4, b5, b6, b7, b8⟩ := b z
  exact ⟨by rw [rd_of (h _ (by omega) (by omega))]; exact b1, ⟨by rw [rd_of (h _ (by omega) (by omega))]; exact b2.1, fun j hj => by rw [rd_of (h _ (by omega) (by omega))]; exact b2.2 j hj⟩, by rw [rd_of (h _ (by omega) (by omega)), rd_of (h _ (by omega) (by omega)), rd_of (h _ (by omega) (by omega))]; exact b3, by rw [rd_of (h _ (by omega) (by omega)), rd_of (h _ (by omega) (by omega))]; exact b4, by rw [rd_of (h _ (by omega) (by omega)), rd_of (h _ (by omega) (by omega)), rd_of (h _ (by omega) (by omega))]; exact b5, hT, logR_eq e b7, pkR_eq e b8⟩
theorem b01_bl (b : Bool) : b01 b = 0 ∨ b01 b = 1 := by cases b <;> simp [b01]
theorem inR_b01 (b : Bool) : inR (b01 b) := by rcases b01_bl b with h | h <;> rw [h] <;> exact ⟨by omega, by omega⟩
set_option maxHeartbeats 1000000 in
theorem c_same_77 {I : Mm} {K : Int → Mm → Prop} {a1 a2 i fr ot fa fb fc : Nat} {k : Ky} {x y : F4} (ha1 : isA a1) (ha2 : isA a2) (hi : i < 6) (hk : kyOK k) (hC : kyR I i k) (hfr : fr + 4 ≤ 1280) (hot : ot + 4 ≤ 1280) (hx : ∀ f, f < 4 → rd I a1 (fr + f) = fv x f) (hy : ∀ f, f < 4 → rd I a2 (ot + f) = fv y f) (h : K (b01 (decide (kE k x 0 = kE k y 0))) I) : CallZ 163 [.inr (3, 0, 0), .inl (fa, (i : Int)), .inr (7, a1, 0), .inl (fb, (fr : Int)), .inr (7, a2, 0), .inl (fc, (ot : Int))] I K := by
  have loop : ∀ (d f : Nat) (sm : Bool) (m8 : Option AV), okO m8 → f + d = k.1 → (sm = true ↔ ∀ j, j < f → fv x (k.2 j) = fv y (k.2 j)) → GoA 163 6 [some (.inr (3, 0, 0)), some (.inl (1, (i : Int))), some (.inr (7, a1, 0)), some (.inl (1, (fr : Int))), some (.inr (7, a2, 0)), some (.inl (1, (ot : Int))), some (.inl (1, b01 sm)), some (.inl (1, (f : Int))), m8] [] I (rZ K) := by
    intro d
    induction d with
    | zero =>
      intro f sm m8 o8 hf hs
      have k3 := hk.2.1
      refine b_r_sameKey_77_6 ha1 ha2 (inRn (by omega)) (inRn (by omega)) (inRn (by omega)) (inR_b01 _) (inRn (by omega)) o8 ?_
      rw [Int.toNat_natCast, hC.1]
      refine ⟨by omega, fun _ => ⟨b01_bl _, ?_⟩, fun z => absurd (by omega) z⟩
      have e : decide (kE k x 0 = kE k y 0) = sm := by
        cases sm with
        | true => exact decide_eq_true (kE_eq hk.2.1 (fun j hj => hs.mp rfl j (by omega)))
        | false =>
          refine decide_eq_false (fun z => ?_)
          have : ¬ ∀ j, j < f → fv x (k.2 j) = fv y (k.2 j) := fun c => absurd (hs.mpr c) (by decide)
          exact this (fun j hj => by
            by_cases c : fv x (k.2 j) = fv y (k.2 j)
            · exact c
            · exact absurd z (kE_ne hk.2.1 (by omega) c))
      rw [e] at h
      exact h
    | succ d ih =>
      intro f sm m8 o8 hf hs
      have k3 := hk.2.1
      have f4 := hk.2.2 f (by omega)
      refine b_r_sameKey_77_6 ha1 ha2 (inRn (by omega)) (inRn (by omega)) (inRn (by omega)) (inR_b01 _) (inRn (by omega)) o8 ?_
      rw [Int.toNat_natCast, hC.1, wrn (3 * i + f) (by omega) (by omega), Int.toNat_natCast, hC.2 f (by omega)]
      refine ⟨by omega, fun z => absurd z (by omega), fun _ => ⟨by omega, ?_⟩⟩
      intro v8 e8 i8
      subst e8
      have up : ∀ b : Bool, (b = true ↔ (sm = true ∧ fv x (k.2 f) = fv y (k.2 f))) → (b = true ↔ ∀ j, j < f + 1 → fv x (k.2 j) = fv y (k.2 j)) := fun b hb => by
        rw [hb, hs]
        constructor
        · intro ⟨c1, c2⟩ j hj
          by_cases c : j = f
          · subst c; exact c2
          · exact c1 j (by omega)
        · intro c
          exact ⟨fun j hj => c j (by omega), c f (by omega)⟩
      have nx : ∀ (v : Int), v = wr ((f : Int) + 1) → ∀ b : Bool, (b = true ↔ (sm = true ∧ fv x (k.2 f) = fv y (k.2 f))) → GoA 163 6 [some (.inr (3, 0, 0)), some (.inl (1, (i : Int))), some (.inr (7, a1, 0)), some (.inl (1, (fr : Int))), some (.inr (7, a2, 0)), some (.inl (1, (ot : Int))), some (.inl (1, b01 b)), some (.inl (1, v)), some (.inl (1, ((k.2 f : Nat) : Int)))] [] I (rZ K) := fun v ev b hb => by
        rw [wrn (f + 1) (by omega) (by omega)] at ev
        subst ev
        exact ih (f + 1) b _ (okO_s (okF_1 (inRn (by omega)) 1)) (by omega) (up b hb)
      have w1 : wr ((fr : Int) + ((k.2 f : Nat) : Int)) = ((fr + k.2 f : Nat) : Int) := wrn (fr + k.2 f) (by omega) (by omega)
      have w2 : wr ((ot : Int) + ((k.2 f : Nat) : Int)) = ((ot + k.2 f : Nat) : Int) := wrn (ot + k.2 f) (by omega) (by omega)
      rw [w1, w2, Int.toNat_natCast, Int.toNat_natCast, hx _ f4, hy _ f4]
      refine ⟨fun z v ev _ => ?_, fun z => ⟨by omega, by omega, fun z2 v ev _ => ?_, fun z2 v ev _ => ?_⟩⟩
      · exact nx v ev false (by cases sm <;> simp [b01] at z ⊢)
      · exact nx v ev true (by cases sm <;> simp [b01, z2] at z ⊢)
      · exact nx v ev false (by simp [z2])
  refine callZ_fl (as' := [.inr (3, 0, 0), .inl (1, (i : Int)), .inr (7, a1, 0), .inl (1, (fr : Int)), .inr (7, a2, 0), .inl (1, (ot : Int))]) rfl ?_
  refine callZ_of rfl (b_r_sameKey_77 ha1 ha2 (inRn (by omega)) (inRn (by omega)) (inRn (by omega)) ?_)
  exact loop k.1 0 true none okO_n (by omega) ⟨fun _ j hj => absurd hj (by omega), fun _ => rfl⟩
set_option maxHeartbeats 1000000 in
theorem c_same_78 {I : Mm} {K : Int → Mm → Prop} {a1 i fr ot fa fb fc : Nat} {k : Ky} {x y : F4} (ha1 : isA a1) (hi : i < 6) (hk : kyOK k) (hC : kyR I i k) (hfr : fr + 4 ≤ 1280) (hot : ot + 4 ≤ 8) (hx : ∀ f, f < 4 → rd I a1 (fr + f) = fv x f) (hy : ∀ f, f < 4 → rd I 255 (ot + f) = fv y f) (h : K (b01 (decide (kE k x 0 = kE k y 0))) I) : CallZ 163 [.inr (3, 0, 0), .inl (fa, (i : Int)), .inr (7, a1, 0), .inl (fb, (fr : Int)), .inr (8, 255, 0), .inl (fc, (ot : Int))] I K := by
  have loop : ∀ (d f : Nat) (sm : Bool) (m8 : Option AV), okO m8 → f + d = k.1 → (sm = true ↔ ∀ j, j < f → fv x (k.2 j) = fv y (k.2 j)) → GoA 163 6 [some (.inr (3, 0, 0)), some (.inl (1, (i : Int))), some (.inr (7, a1, 0)), some (.inl (1, (fr : Int))), some (.inr (8, 255, 0)), some (.inl (1, (ot : Int))), some (.inl (1, b01 sm)), some (.inl (1, (f : Int))), m8] [] I (rZ K) := by
    intro d
    induction d with
    | zero =>
      intro f sm m8 o8 hf hs
      have k3 := hk.2.1
      refine b_r_sameKey_78_6 ha1 (inRn (by omega)) (inRn (by omega)) (inRn (by omega)) (inR_b01 _) (inRn (by omega)) o8 ?_
      rw [Int.toNat_natCast, hC.1]
      refine ⟨by omega, fun _ => ⟨b01_bl _, ?_⟩, fun z => absurd (by omega) z⟩
      have e : decide (kE k x 0 = kE k y 0) = sm := by
        cases sm with
        | true => exact decide_eq_true (kE_eq hk.2.1 (fun j hj => hs.mp rfl j (by omega)))
        | false =>
          refine decide_eq_false (fun z => ?_)
          have : ¬ ∀ j, j < f → fv x (k.2 j) = fv y (k.2 j) := fun c => absurd (hs.mpr c) (by decide)
          exact this (fun j hj => by
            by_cases c : fv x (k.2 j) = fv y (k.2 j)
            · exact c
            · exact absurd z (kE_ne hk.2.1 (by omega) c))
      rw [e] at h
      exact h
    | succ d ih =>
      intro f sm m8 o8 hf hs
      have k3 := hk.2.1
      have f4 := hk.2.2 f (by omega)
      refine b_r_sameKey_78_6 ha1 (inRn (by omega)) (inRn (by omega)) (inRn (by omega)) (inR_b01 _) (inRn (by omega)) o8 ?_
      rw [Int.toNat_natCast, hC.1, wrn (3 * i + f) (by omega) (by omega), Int.toNat_natCast, hC.2 f (by omega)]
      refine ⟨by omega, fun z => absurd z (by omega), fun _ => ⟨by omega, ?_⟩⟩
      intro v8 e8 i8
      subst e8
      have up : ∀ b : Bool, (b = true ↔ (sm = true ∧ fv x (k.2 f) = fv y (k.2 f))) → (b = true ↔ ∀ j, j < f + 1 → fv x (k.2 j) = fv y (k.2 j)) := fun b hb => by
        rw [hb, hs]
        constructor
        · intro ⟨c1, c2⟩ j hj
          by_cases c : j = f
          · subst c; exact c2
          · exact c1 j (by omega)
        · intro c
          exact ⟨fun j hj => c j (by omega), c f (by omega)⟩
      have nx : ∀ (v : Int), v = wr ((f : Int) + 1) → ∀ b : Bool, (b = true ↔ (sm = true ∧ fv x (k.2 f) = fv y (k.2 f))) → GoA 163 6 [some (.inr (3, 0, 0)), some (.inl (1, (i : Int))), some (.inr (7, a1, 0)), some (.inl (1, (fr : Int))), some (.inr (8, 255, 0)), some (.inl (1, (ot : Int))), some (.inl (1, b01 b)), some (.inl (1, v)), some (.inl (1, ((k.2 f : Nat) : Int)))] [] I (rZ K) := fun v ev b hb => by
        rw [wrn (f + 1) (by omega) (by omega)] at ev
        subst ev
        exact ih (f + 1) b _ (okO_s (okF_1 (inRn (by omega)) 1)) (by omega) (up b hb)
      have w1 : wr ((fr : Int) + ((k.2 f : Nat) : Int)) = ((fr + k.2 f : Nat) : Int) := wrn (fr + k.2 f) (by omega) (by omega)
      have w2 : wr ((ot : Int) + ((k.2 f : Nat) : Int)) = ((ot + k.2 f : Nat) : Int) := wrn (ot + k.2 f) (by omega) (by omega)
      rw [w1, w2, Int.toNat_natCast, Int.toNat_natCast, hx _ f4, hy _ f4]
      refine ⟨fun z v ev _ => ?_, fun z => ⟨by omega, by omega, fun z2 v ev _ => ?_, fun z2 v ev _ => ?_⟩⟩
      · exact nx v ev false (by cases sm <;> simp [b01] at z ⊢)
      · exact nx v ev true (by cases sm <;> simp [b01, z2] at z ⊢)
      · exact nx v ev false (by simp [z2])
  refine callZ_fl (as' := [.inr (3, 0, 0), .inl (1, (i : Int)), .inr (7, a1, 0), .inl (1, (fr : Int)), .inr (8, 255, 0), .inl (1, (ot : Int))]) rfl ?_
  refine callZ_of rfl (b_r_sameKey_78 ha1 (inRn (by omega)) (inRn (by omega)) (inRn (by omega)) ?_)
  exact loop k.1 0 true none okO_n (by omega) ⟨fun _ j hj => absurd hj (by omega), fun _ => rfl⟩
set_option maxHeartbeats 1000000 in
theorem c_same_87 {I : Mm} {K : Int → Mm → Prop} {a2 i fr ot fa fb fc : Nat} {k : Ky} {x y : F4} (ha2 : isA a2) (hi : i < 6) (hk : kyOK k) (hC : kyR I i k) (hfr : fr + 4 ≤ 8) (hot : ot + 4 ≤ 1280) (hx : ∀ f, f < 4 → rd I 255 (fr + f) = fv x f) (hy : ∀ f, f < 4 → rd I a2 (ot + f) = fv y f) (h : K (b01 (decide (kE k x 0 = kE k y 0))) I) : CallZ 163 [.inr (3, 0, 0), .inl (fa, (i : Int)), .inr (8, 255, 0), .inl (fb, (fr : Int)), .inr (7, a2, 0), .inl (fc, (ot : Int))] I K := by
  have loop : ∀ (d f : Nat) (sm : Bool) (m8 : Option AV), okO m8 → f + d = k.1 → (sm = true ↔ ∀ j, j < f → fv x (k.2 j) = fv y (k.2 j)) → GoA 163 6 [some (.inr (3, 0, 0)), some (.inl (1, (i : Int))), some (.inr (8, 255, 0)), some (.inl (1, (fr : Int))), some (.inr (7, a2, 0)), some (.inl (1, (ot : Int))), some (.inl (1, b01 sm)), some (.inl (1, (f : Int))), m8] [] I (rZ K) := by
    intro d
    induction d with
    | zero =>
      intro f sm m8 o8 hf hs
      have k3 := hk.2.1
      refine b_r_sameKey_87_6 ha2 (inRn (by omega)) (inRn (by omega)) (inRn (by omega)) (inR_b01 _) (inRn (by omega)) o8 ?_
      rw [Int.toNat_natCast, hC.1]
      refine ⟨by omega, fun _ => ⟨b01_bl _, ?_⟩, fun z => absurd (by omega) z⟩
      have e : decide (kE k x 0 = kE k y 0) = sm := by
        cases sm with
        | true => exact decide_eq_true (kE_eq hk.2.1 (fun j hj => hs.mp rfl j (by omega)))
        | false =>
          refine decide_eq_false (fun z => ?_)
          have : ¬ ∀ j, j < f → fv x (k.2 j) = fv y (k.2 j) := fun c => absurd (hs.mpr c) (by decide)
          exact this (fun j hj => by
            by_cases c : fv x (k.2 j) = fv y (k.2 j)
            · exact c
            · exact absurd z (kE_ne hk.2.1 (by omega) c))
      rw [e] at h
      exact h
    | succ d ih =>
      intro f sm m8 o8 hf hs
      have k3 := hk.2.1
      have f4 := hk.2.2 f (by omega)
      refine b_r_sameKey_87_6 ha2 (inRn (by omega)) (inRn (by omega)) (inRn (by omega)) (inR_b01 _) (inRn (by omega)) o8 ?_
      rw [Int.toNat_natCast, hC.1, wrn (3 * i + f) (by omega) (by omega), Int.toNat_natCast, hC.2 f (by omega)]
      refine ⟨by omega, fun z => absurd z (by omega), fun _ => ⟨by omega, ?_⟩⟩
      intro v8 e8 i8
      subst e8
      have up : ∀ b : Bool, (b = true ↔ (sm = true ∧ fv x (k.2 f) = fv y (k.2 f))) → (b = true ↔ ∀ j, j < f + 1 → fv x (k.2 j) = fv y (k.2 j)) := fun b hb => by
        rw [hb, hs]
        constructor
        · intro ⟨c1, c2⟩ j hj
          by_cases c : j = f
          · subst c; exact c2
          · exact c1 j (by omega)
        · intro c
          exact ⟨fun j hj => c j (by omega), c f (by omega)⟩
      have nx : ∀ (v : Int), v = wr ((f : Int) + 1) → ∀ b : Bool, (b = true ↔ (sm = true ∧ fv x (k.2 f) = fv y (k.2 f))) → GoA 163 6 [some (.inr (3, 0, 0)), some (.inl (1, (i : Int))), some (.inr (8, 255, 0)), some (.inl (1, (fr : Int))), some (.inr (7, a2, 0)), some (.inl (1, (ot : Int))), some (.inl (1, b01 b)), some (.inl (1, v)), some (.inl (1, ((k.2 f : Nat) : Int)))] [] I (rZ K) := fun v ev b hb => by
        rw [wrn (f + 1) (by omega) (by omega)] at ev
        subst ev
        exact ih (f + 1) b _ (okO_s (okF_1 (inRn (by omega)) 1)) (by omega) (up b hb)
      have w1 : wr ((fr : Int) + ((k.2 f : Nat) : Int)) = ((fr + k.2 f : Nat) : Int) := wrn (fr + k.2 f) (by omega) (by omega)
      have w2 : wr ((ot : Int) + ((k.2 f : Nat) : Int)) = ((ot + k.2 f : Nat) : Int) := wrn (ot + k.2 f) (by omega) (by omega)
      rw [w1, w2, Int.toNat_natCast, Int.toNat_natCast, hx _ f4, hy _ f4]
      refine ⟨fun z v ev _ => ?_, fun z => ⟨by omega, by omega, fun z2 v ev _ => ?_, fun z2 v ev _ => ?_⟩⟩
      · exact nx v ev false (by cases sm <;> simp [b01] at z ⊢)
      · exact nx v ev true (by cases sm <;> simp [b01, z2] at z ⊢)
      · exact nx v ev false (by simp [z2])
  refine callZ_fl (as' := [.inr (3, 0, 0), .inl (1, (i : Int)), .inr (8, 255, 0), .inl (1, (fr : Int)), .inr (7, a2, 0), .inl (1, (ot : Int))]) rfl ?_
  refine callZ_of rfl (b_r_sameKey_87 ha2 (inRn (by omega)) (inRn (by omega)) (inRn (by omega)) ?_)
  exact loop k.1 0 true none okO_n (by omega) ⟨fun _ j hj => absurd hj (by omega), fun _ => rfl⟩
set_option maxHeartbeats 1000000 in
theorem c_entryOf_7 {I : Mm} {K : Mm → Prop} {a1 i fr p fa fb fc : Nat} {k : Ky} {x : F4} (ha1 : isA a1) (hi : i < 6) (hk : kyOK k) (hC : kyR I i k) (hp : p < 320) (hfr : fr + 4 ≤ 1280) (hx : ∀ f, f < 4 → rd I a1 (fr + f) = fv x f)
    (h : ∀ J : Mm, (∀ c, c ≠ 212 → c ≠ 250 → J c = I c) → (∀ k, k ≠ 41 → rd J 212 k = rd I 212 k) → atE J = kE k x p → K J) : CallV 141 [.inr (3, 0, 0), .inl (fa, (i : Int)), .inr (7, a1, 0), .inl (fb, (fr : Int)), .inl (fc, (p : Int))] I K := by
  have loop : ∀ (d f : Nat) (J : Mm), f + d = 3 → (∀ c, c ≠ 250 → J c = I c) → (∀ j, j < f → rd J 250 j = kv k x j) → GoA 141 3 [some (.inr (3, 0, 0)), some (.inl (1, (i : Int))), some (.inr (7, a1, 0)), some (.inl (1, (fr : Int))), some (.inl (1, (p : Int))), some (.inl (1, (f : Int)))] [] J (rV K) := by
    intro d
    induction d with
    | zero =>
      intro f J hf f1 f2
      refine b_r_entryOf_7_3 ha1 (inRn (by omega)) (inRn (by omega)) (inRn (by omega)) (inRn (by omega)) ⟨fun _ => ?_, fun z => absurd (by omega) z⟩
      intro I1 e1
      refine h I1 (fun c c1 c2 => by rw [e1, wt_a _ _ _ _ c1, f1 c c2]) (fun k' hk' => by rw [e1, rd_wt_k _ _ _ _ hk', rd_of (f1 212 (by omega))]) ?_
      unfold atE kE
      rw [e1, rd_wt_s _ _ _ (inRn (by omega)), rd_wt_a _ _ _ _ (by omega), rd_wt_a _ _ _ _ (by omega), rd_wt_a _ _ _ _ (by omega), f2 0 (by omega), f2 1 (by omega), f2 2 (by omega)]
    | succ d ih =>
      intro f J hf f1 f2
      have k3 := hk.2.1
      have nx : ∀ (v y : Int) (L : Mm), v = wr ((f : Int) + 1) → inR y → y = kv k x f → L = wt J 250 f y → GoA 141 3 [some (.inr (3, 0, 0)), some (.inl (1, (i : Int))), some (.inr (7, a1, 0)), some (.inl (1, (fr : Int))), some (.inl (1, (p : Int))), some (.inl (1, v))] [] L (rV K) := fun v y L ev iy ey eL => by
        rw [wrn (f + 1) (by omega) (by omega)] at ev
        subst ev
        refine ih (f + 1) L (by omega) (fun c hc => by rw [eL, wt_a _ _ _ _ hc, f1 c hc]) (fun j hj => ?_)
        by_cases c : j = f
        · subst c; rw [eL, rd_wt_s _ _ _ iy, ey]
        · rw [eL, rd_wt_k _ _ _ _ c, f2 j (by omega)]
      refine b_r_entryOf_7_3 ha1 (inRn (by omega)) (inRn (by omega)) (inRn (by omega)) (inRn (by omega)) ⟨fun z => absurd z (by omega), fun _ => ⟨by omega, fun z => ⟨by omega, ?_⟩, fun z => ?_⟩⟩
      · intro I2 e2 v ev _
        rw [Int.toNat_natCast] at e2 z
        rw [rd_of (f1 225 (by omega)), hC.1] at z
        exact nx v 0 I2 ev ⟨by omega, by omega⟩ (by unfold kv; rw [if_neg (by omega)]) e2
      · rw [Int.toNat_natCast, rd_of (f1 225 (by omega)), hC.1] at z
        have fk : f < k.1 := by omega
        have f4 := hk.2.2 f fk
        rw [wrn (3 * i + f) (by omega) (by omega), Int.toNat_natCast, rd_of (f1 226 (by omega)), hC.2 f fk, wrn (fr + k.2 f) (by omega) (by omega), Int.toNat_natCast, Int.toNat_natCast, rd_of (f1 a1 (by rcases ha1 with e | e <;> omega)), hx _ f4]
        refine ⟨by omega, by omega, by omega, ?_⟩
        intro I3 e3 v ev _
        refine nx v _ I3 ev ?_ (by unfold kv; rw [if_pos fk]) e3
        rw [← hx _ f4]
        exact rd_in _ _ _
  refine callV_fl (as' := [.inr (3, 0, 0), .inl (1, (i : Int)), .inr (7, a1, 0), .inl (1, (fr : Int)), .inl (1, (p : Int))]) rfl ?_
  refine callV_of rfl (b_r_entryOf_7 ha1 (inRn (by omega)) (inRn (by omega)) (inRn (by omega)) ?_)
  exact loop 3 0 I (by omega) (fun _ _ => rfl) (fun j hj => absurd hj (by omega))
set_option maxHeartbeats 1000000 in
theorem c_entryOf_8 {I : Mm} {K : Mm → Prop} {i fr p fa fb fc : Nat} {k : Ky} {x : F4} (hi : i < 6) (hk : kyOK k) (hC : kyR I i k) (hp : p < 320) (hfr : fr + 4 ≤ 8) (hx : ∀ f, f < 4 → rd I 255 (fr + f) = fv x f)
    (h : ∀ J : Mm, (∀ c, c ≠ 212 → c ≠ 250 → J c = I c) → (∀ k, k ≠ 41 → rd J 212 k = rd I 212 k) → atE J = kE k x p → K J) : CallV 141 [.inr (3, 0, 0), .inl (fa, (i : Int)), .inr (8, 255, 0), .inl (fb, (fr : Int)), .inl (fc, (p : Int))] I K := by
  have loop : ∀ (d f : Nat) (J : Mm), f + d = 3 → (∀ c, c ≠ 250 → J c = I c) → (∀ j, j < f → rd J 250 j = kv k x j) → GoA 141 3 [some (.inr (3, 0, 0)), some (.inl (1, (i : Int))), some (.inr (8, 255, 0)), some (.inl (1, (fr : Int))), some (.inl (1, (p : Int))), some (.inl (1, (f : Int)))] [] J (rV K) := by
    intro d
    induction d with
    | zero =>
      intro f J hf f1 f2
      refine b_r_entryOf_8_3 (inRn (by omega)) (inRn (by omega)) (inRn (by omega)) (inRn (by omega)) ⟨fun _ => ?_, fun z => absurd (by omega) z⟩
      intro I1 e1
      refine h I1 (fun c c1 c2 => by rw [e1, wt_a _ _ _ _ c1, f1 c c2]) (fun k' hk' => by rw [e1, rd_wt_k _ _ _ _ hk', rd_of (f1 212 (by omega))]) ?_
      unfold atE kE
      rw [e1, rd_wt_s _ _ _ (inRn (by omega)), rd_wt_a _ _ _ _ (by omega), rd_wt_a _ _ _ _ (by omega), rd_wt_a _ _ _ _ (by omega), f2 0 (by omega), f2 1 (by omega), f2 2 (by omega)]
    | succ d ih =>
      intro f J hf f1 f2
      have k3 := hk.2.1
      have nx : ∀ (v y : Int) (L : Mm), v = wr ((f : Int) + 1) → inR y → y = kv k x f → L = wt J 250 f y → GoA 141 3 [some (.inr (3, 0, 0)), some (.inl (1, (i : Int))), some (.inr (8, 255, 0)), some (.inl (1, (fr : Int))), some (.inl (1, (p : Int))), some (.inl (1, v))] [] L (rV K) := fun v y L ev iy ey eL => by
        rw [wrn (f + 1) (by omega) (by omega)] at ev
        subst ev
        refine ih (f + 1) L (by omega) (fun c hc => by rw [eL, wt_a _ _ _ _ hc, f1 c hc]) (fun j hj => ?_)
        by_cases c : j = f
        · subst c; rw [eL, rd_wt_s _ _ _ iy, ey]
        · rw [eL, rd_wt_k _ _ _ _ c, f2 j (by omega)]
      refine b_r_entryOf_8_3 (inRn (by omega)) (inRn (by omega)) (inRn (by omega)) (inRn (by omega)) ⟨fun z => absurd z (by omega), fun _ => ⟨by omega, fun z => ⟨by omega, ?_⟩, fun z => ?_⟩⟩
      · intro I2 e2 v ev _
        rw [Int.toNat_natCast] at e2 z
        rw [rd_of (f1 225 (by omega)), hC.1] at z
        exact nx v 0 I2 ev ⟨by omega, by omega⟩ (by unfold kv; rw [if_neg (by omega)]) e2
      · rw [Int.toNat_natCast, rd_of (f1 225 (by omega)), hC.1] at z
        have fk : f < k.1 := by omega
        have f4 := hk.2.2 f fk
        rw [wrn (3 * i + f) (by omega) (by omega), Int.toNat_natCast, rd_of (f1 226 (by omega)), hC.2 f fk, wrn (fr + k.2 f) (by omega) (by omega), Int.toNat_natCast, Int.toNat_natCast, rd_of (f1 255 (by omega)), hx _ f4]
        refine ⟨by omega, by omega, by omega, ?_⟩
        intro I3 e3 v ev _
        refine nx v _ I3 ev ?_ (by unfold kv; rw [if_pos fk]) e3
        rw [← hx _ f4]
        exact rd_in _ _ _
  refine callV_fl (as' := [.inr (3, 0, 0), .inl (1, (i : Int)), .inr (8, 255, 0), .inl (1, (fr : Int)), .inl (1, (p : Int))]) rfl ?_
  refine callV_of rfl (b_r_entryOf_8 (inRn (by omega)) (inRn (by omega)) (inRn (by omega)) ?_)
  exact loop 3 0 I (by omega) (fun _ _ => rfl) (fun j hj => absurd hj (by omega))
