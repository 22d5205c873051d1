/-! CONSTRUCTORS: tree, index -/
theorem c_tk {N M T a4 a5 a6 : Nat} {G : Gm} {I : Mm} (hT : T < N) (hk : (G T).1 = 7) (r4 : (G T).2.2 4 = some a4) (r5 : (G T).2.2 5 = some a5) (r6 : (G T).2.2 6 = some a6) (h4 : a4 < N) (h5 : a5 < N) (h6 : a6 < N) (k4 : (G a4).1 = 10) (k5 : (G a5).1 = 10) (k6 : (G a6).1 = 10) (l4 : (G a4).2.1 = 2088) (l5 : (G a5).2.1 = 348) (l6 : (G a6).2.1 = 348) (n4 : a5 ≠ a4) (n5 : a5 ≠ T) (n6 : a6 ≠ T) (h7 : I T 7 = 348) (h0 : I a6 347 = 0) :
    Fp none 69 0 [some (.ref T), none, none] [] (N, M, G, I) (fun rv σ' => ∃ I' : Mm, rv = some (.int 0) ∧ σ' = (N, M, G, I') ∧ (∀ c, c ≠ T → c ≠ a4 → c ≠ a5 → I' c = I c) ∧ ∀ m, I' a5 m = if m = 0 then 0 else I a5 m) := by
  refine fp_aload rfl rfl 1 rfl rfl ?_
  refine fp_dup rfl rfl 2 rfl ?_
  refine fp_gi rfl rfl 5 rfl hT hk rfl ?_
  rw [h7]
  refine fp_iconst rfl rfl 6 rfl ?_
  refine fp_isub rfl rfl 7 rfl ?_
  refine fp_pi rfl rfl 10 rfl hT hk rfl ?_
  refine fp_aload rfl rfl 11 rfl rfl ?_
  refine fp_gr rfl rfl 14 rfl hT hk rfl r6 ?_
  refine fp_aload rfl rfl 15 rfl rfl ?_
  refine fp_gi rfl rfl 18 rfl hT hk rfl ?_
  have e7 : iW I T 7 (348 - 1) T 7 = 348 - 1 := by rw [iW_s]; exact if_pos rfl
  rw [e7]
  have x7 : ((348 : Int32) - 1) = Int32.ofInt ((347 : Nat) : Int) := rfl
  refine fp_ial rfl rfl 19 rfl h6 k6 (by rw [l6]; exact ibd_n x7 (by omega) (by omega)) ?_
  rw [(lit_n x7 (by omega)).1, iW_o _ _ _ _ n6, h0]
  refine fp_istore rfl rfl 20 rfl (by simp) ?_
  refine fp_aload rfl rfl 21 rfl rfl ?_
  refine fp_gr rfl rfl 24 rfl hT hk rfl r5 ?_
  refine fp_iload rfl rfl 25 rfl rfl ?_
  refine fp_iconst rfl rfl 26 rfl ?_
  refine fp_ias rfl rfl 27 rfl h5 k5 (by rw [l5]; exact ibd_n (i := 0) rfl (by omega) (by omega)) ?_
  refine fp_iconst rfl rfl 28 rfl ?_
  refine fp_istore rfl rfl 29 rfl (by simp) ?_
  have loop : ∀ (d k : Nat) (x : Int32) (J : Mm), k + d = 6 → x = Int32.ofInt (k : Int) → (∀ c, c ≠ T → c ≠ a4 → c ≠ a5 → J c = I c) → (∀ m, J a5 m = if m = 0 then 0 else I a5 m) → Fp none 69 29 [some (.ref T), some (.int 0), some (.int x)] [] (N, M, G, J) (fun rv σ' => ∃ I' : Mm, rv = some (.int 0) ∧ σ' = (N, M, G, I') ∧ (∀ c, c ≠ T → c ≠ a4 → c ≠ a5 → I' c = I c) ∧ ∀ m, I' a5 m = if m = 0 then 0 else I a5 m) := by
    intro d
    induction d with
    | zero =>
      intro k x J hk' hx f1 f2
      refine fp_iload rfl rfl 30 rfl rfl ?_
      refine fp_bipush rfl rfl 32 rfl ?_
      refine fp_ge1 rfl rfl ((le_n (j := 6) hx (by omega) rfl (by omega)).mpr (by omega)) ?_
      refine fp_iload rfl rfl 54 rfl rfl ?_
      exact fp_ir rfl rfl rfl ⟨J, rfl, rfl, f1, f2⟩
    | succ d ih =>
      intro k x J hk' hx f1 f2
      refine fp_iload rfl rfl 30 rfl rfl ?_
      refine fp_bipush rfl rfl 32 rfl ?_
      refine fp_ge0 rfl rfl 35 rfl (fun z => absurd ((le_n (j := 6) hx (by omega) rfl (by omega)).mp z) (by omega)) ?_
      refine fp_aload rfl rfl 36 rfl rfl ?_
      refine fp_gr rfl rfl 39 rfl hT hk rfl r4 ?_
      refine fp_iload rfl rfl 40 rfl rfl ?_
      refine fp_bipush rfl rfl 42 rfl ?_
      refine fp_imul rfl rfl 43 rfl ?_
      refine fp_iload rfl rfl 44 rfl rfl ?_
      refine fp_iadd rfl rfl 45 rfl ?_
      refine fp_iconst rfl rfl 46 rfl ?_
      have hx' : ((0 : Int32) * 6 + x) = Int32.ofInt (k : Int) := by rw [show (0 : Int32) * 6 = 0 from rfl, Int32.zero_add]; exact hx
      refine fp_ias rfl rfl 47 rfl h4 k4 (by rw [l4]; exact ibd_n hx' (by omega) (by omega)) ?_
      refine fp_iinc rfl rfl 50 rfl rfl ?_
      refine fp_goto rfl rfl ?_
      exact ih (k + 1) (x + 1) _ (by omega) (inc_n hx) (fun c c1 c2 c3 => by rw [iW_o _ _ _ _ c2, f1 c c1 c2 c3]) (fun m => by rw [iW_o _ _ _ _ n4]; exact f2 m)
  refine loop 6 0 0 _ (by omega) rfl (fun c c1 c2 c3 => by rw [iW_o _ _ _ _ c3, iW_o _ _ _ _ c1]) (fun m => ?_)
  rw [iW_s]
  show (if m = Int32.toNatClampNeg 0 then (0 : Int32) else iW I T 7 (348 - 1) a5 m) = _
  rw [iW_o _ _ _ _ n5]
  rfl
set_option maxHeartbeats 2000000 in
theorem c_emp {N M T a1 a4 a5 a6 : Nat} {G : Gm} {I : Mm} (hT : T < N) (hk : (G T).1 = 7) (r1 : (G T).2.2 1 = some a1) (r4 : (G T).2.2 4 = some a4) (r5 : (G T).2.2 5 = some a5) (r6 : (G T).2.2 6 = some a6) (h1 : a1 < N) (h4 : a4 < N) (h5 : a5 < N) (h6 : a6 < N) (k1 : (G a1).1 = 10) (k4 : (G a4).1 = 10) (k5 : (G a5).1 = 10) (k6 : (G a6).1 = 10) (l1 : (G a1).2.1 = 648) (l4 : (G a4).2.1 = 2088) (l5 : (G a5).2.1 = 348) (l6 : (G a6).2.1 = 348) (n4 : a5 ≠ a4) (n5 : a5 ≠ T) (n6 : a6 ≠ T) (n1 : a5 ≠ a1) (n56 : a5 ≠ a6) (n16 : a6 ≠ a1) :
    Fp none 59 0 [some (.ref T), none] [] (N, M, G, I) (fun rv σ' => rv = none ∧ ∃ I' : Mm, σ' = (N, M, G, I') ∧ (∀ c, c ≠ T → c ≠ a1 → c ≠ a4 → c ≠ a5 → c ≠ a6 → I' c = I c) ∧ ∀ m, I' a5 m = if m = 0 then 0 else I a5 m) := by
  have part3 : ∀ (x : Int32) (J : Mm), (∀ c, c ≠ T → c ≠ a1 → c ≠ a4 → c ≠ a5 → c ≠ a6 → J c = I c) → (∀ m, J a5 m = I a5 m) → J a6 347 = 0 → Fp none 59 59 [some (.ref T), some (.int x)] [] (N, M, G, J) (fun rv σ' => rv = none ∧ ∃ I' : Mm, σ' = (N, M, G, I') ∧ (∀ c, c ≠ T → c ≠ a1 → c ≠ a4 → c ≠ a5 → c ≠ a6 → I' c = I c) ∧ ∀ m, I' a5 m = if m = 0 then 0 else I a5 m) := by
    intro x J f1 f2 f3
    refine fp_aload rfl rfl 60 rfl rfl ?_
    refine fp_sipush rfl rfl 63 rfl ?_
    refine fp_pi rfl rfl 66 rfl hT hk rfl ?_
    refine fp_aload rfl rfl 67 rfl rfl ?_
    refine fp_aload rfl rfl 68 rfl rfl ?_
    refine fp_iv [] rfl rfl 71 rfl rfl rfl (by simp) hT hk rfl (okl_2 hT) (oks_1 hT) (c_tk hT hk r4 r5 r6 h4 h5 h6 k4 k5 k6 l4 l5 l6 n4 n5 n6 (by rw [iW_s]; exact if_pos rfl) (by rw [iW_o _ _ _ _ n6]; exact f3)) ?_
    rintro _ _ ⟨J2, rfl, rfl, g1, g2⟩
    refine fp_pi rfl rfl 74 rfl hT hk rfl ?_
    refine fp_aload rfl rfl 75 rfl rfl ?_
    refine fp_iconst rfl rfl 76 rfl ?_
    refine fp_pb rfl rfl 79 rfl hT hk rfl (Or.inl rfl) ?_
    refine fp_ret rfl rfl rfl ⟨rfl, _, rfl, fun c c0 c1 c4 c5 c6 => ?_, fun m => ?_⟩
    · rw [iW_o _ _ _ _ c0, iW_o _ _ _ _ c0, g1 c c0 c4 c5, iW_o _ _ _ _ c0, f1 c c0 c1 c4 c5 c6]
    · rw [iW_o _ _ _ _ n5, iW_o _ _ _ _ n5, g2 m, iW_o _ _ _ _ n5, f2 m]
  have loop2 : ∀ (d i : Nat) (x : Int32) (J : Mm), i + d = 348 → x = Int32.ofInt (i : Int) → (∀ c, c ≠ T → c ≠ a1 → c ≠ a4 → c ≠ a5 → c ≠ a6 → J c = I c) → (∀ m, J a5 m = I a5 m) → (347 < i → J a6 347 = 0) → Fp none 59 35 [some (.ref T), some (.int x)] [] (N, M, G, J) (fun rv σ' => rv = none ∧ ∃ I' : Mm, σ' = (N, M, G, I') ∧ (∀ c, c ≠ T → c ≠ a1 → c ≠ a4 → c ≠ a5 → c ≠ a6 → I' c = I c) ∧ ∀ m, I' a5 m = if m = 0 then 0 else I a5 m) := by
    intro d
    induction d with
    | zero =>
      intro i x J hi hx f1 f2 f3
      refine fp_iload rfl rfl 36 rfl rfl ?_
      refine fp_sipush rfl rfl 39 rfl ?_
      refine fp_ge1 rfl rfl ((le_n (j := 348) hx (by omega) rfl (by omega)).mpr (by omega)) ?_
      exact part3 x J f1 f2 (f3 (by omega))
    | succ d ih =>
      intro i x J hi hx f1 f2 f3
      refine fp_iload rfl rfl 36 rfl rfl ?_
      refine fp_sipush rfl rfl 39 rfl ?_
      refine fp_ge0 rfl rfl 42 rfl (fun z => absurd ((le_n (j := 348) hx (by omega) rfl (by omega)).mp z) (by omega)) ?_
      refine fp_aload rfl rfl 43 rfl rfl ?_
      refine fp_gr rfl rfl 46 rfl hT hk rfl r6 ?_
      refine fp_iload rfl rfl 47 rfl rfl ?_
      refine fp_sipush rfl rfl 50 rfl ?_
      refine fp_iload rfl rfl 51 rfl rfl ?_
      refine fp_isub rfl rfl 52 rfl ?_
      refine fp_ias rfl rfl 53 rfl h6 k6 (by rw [l6]; exact ibd_n hx (by omega) (by omega)) ?_
      refine fp_iinc rfl rfl 56 rfl rfl ?_
      refine fp_goto rfl rfl ?_
      rw [(lit_n hx (by omega)).1]
      refine ih (i + 1) (x + 1) _ (by omega) (inc_n hx) (fun c c0 c1 c4 c5 c6 => by rw [iW_o _ _ _ _ c6, f1 c c0 c1 c4 c5 c6]) (fun m => by rw [iW_o _ _ _ _ n56]; exact f2 m) (fun h => ?_)
      rw [iW_s]
      by_cases c : i = 347
      · subst c
        rw [hx]
        exact if_pos rfl
      · exact (if_neg (fun z => c z.symm)).trans (f3 (by omega))
  have loop1 : ∀ (d i : Nat) (x : Int32) (J : Mm), i + d = 648 → x = Int32.ofInt (i : Int) → (∀ c, c ≠ T → c ≠ a1 → c ≠ a4 → c ≠ a5 → c ≠ a6 → J c = I c) → (∀ m, J a5 m = I a5 m) → Fp none 59 2 [some (.ref T), some (.int x)] [] (N, M, G, J) (fun rv σ' => rv = none ∧ ∃ I' : Mm, σ' = (N, M, G, I') ∧ (∀ c, c ≠ T → c ≠ a1 → c ≠ a4 → c ≠ a5 → c ≠ a6 → I' c = I c) ∧ ∀ m, I' a5 m = if m = 0 then 0 else I a5 m) := by
    intro d
    induction d with
    | zero =>
      intro i x J hi hx f1 f2
      refine fp_iload rfl rfl 3 rfl rfl ?_
      refine fp_sipush rfl rfl 6 rfl ?_
      refine fp_ge1 rfl rfl ((le_n (j := 648) hx (by omega) rfl (by omega)).mpr (by omega)) ?_
      refine fp_aload rfl rfl 27 rfl rfl ?_
      refine fp_sipush rfl rfl 30 rfl ?_
      refine fp_pi rfl rfl 33 rfl hT hk rfl ?_
      refine fp_iconst rfl rfl 34 rfl ?_
      refine fp_istore rfl rfl 35 rfl (by simp) ?_
      exact loop2 348 0 0 _ (by omega) rfl (fun c c0 c1 c4 c5 c6 => by rw [iW_o _ _ _ _ c0, f1 c c0 c1 c4 c5 c6]) (fun m => by rw [iW_o _ _ _ _ n5]; exact f2 m) (fun h => absurd h (by omega))
    | succ d ih =>
      intro i x J hi hx f1 f2
      refine fp_iload rfl rfl 3 rfl rfl ?_
      refine fp_sipush rfl rfl 6 rfl ?_
      refine fp_ge0 rfl rfl 9 rfl (fun z => absurd ((le_n (j := 648) hx (by omega) rfl (by omega)).mp z) (by omega)) ?_
      refine fp_aload rfl rfl 10 rfl rfl ?_
      refine fp_gr rfl rfl 13 rfl hT hk rfl r1 ?_
      refine fp_iload rfl rfl 14 rfl rfl ?_
      refine fp_sipush rfl rfl 17 rfl ?_
      refine fp_iload rfl rfl 18 rfl rfl ?_
      refine fp_isub rfl rfl 19 rfl ?_
      refine fp_ias rfl rfl 20 rfl h1 k1 (by rw [l1]; exact ibd_n hx (by omega) (by omega)) ?_
      refine fp_iinc rfl rfl 23 rfl rfl ?_
      refine fp_goto rfl rfl ?_
      exact ih (i + 1) (x + 1) _ (by omega) (inc_n hx) (fun c c0 c1 c4 c5 c6 => by rw [iW_o _ _ _ _ c1, f1 c c0 c1 c4 c5 c6]) (fun m => by rw [iW_o _ _ _ _ n1]; exact f2 m)
  refine fp_iconst rfl rfl 1 rfl ?_
  refine fp_istore rfl rfl 2 rfl (by simp) ?_
  exact loop1 648 0 0 I (by omega) rfl (fun _ _ _ _ _ _ => rfl) (fun _ => rfl)
def gTre (G : Gm) (r : Nat) : Gm := gRef (gNew (gRef (gNew (gRef (gNew (gRef (gNew (gRef (gNew (gRef (gNew (gRef (gNew (gRef (gNew (gRef (gNew (gRef (gNew (gRef (gRef (gNew (gNew G (r + 1) 0 0) (r + 2) 10 2592) (r + 1) 0 (r + 2)) r 0 (r + 1)) (r + 3) 10 648) r 1 (r + 3)) (r + 4) 10 1740) r 3 (r + 4)) (r + 5) 10 2088) r 4 (r + 5)) (r + 6) 10 348) r 5 (r + 6)) (r + 7) 10 348) r 6 (r + 7)) (r + 8) 10 12) r 9 (r + 8)) (r + 9) 10 12) r 10 (r + 9)) (r + 10) 10 648) r 12 (r + 10)) (r + 11) 10 648) r 13 (r + 11)) (r + 12) 10 348) r 16 (r + 12)
theorem gTre_o {G : Gm} {r c : Nat} (h : c < r) : gTre G r c = G c := by
  unfold gTre
  rw [gRef_o _ _ _ _ (by omega), gNew_o _ _ _ _ (by omega), gRef_o _ _ _ _ (by omega), gNew_o _ _ _ _ (by omega), gRef_o _ _ _ _ (by omega), gNew_o _ _ _ _ (by omega), gRef_o _ _ _ _ (by omega), gNew_o _ _ _ _ (by omega), gRef_o _ _ _ _ (by omega), gNew_o _ _ _ _ (by omega), gRef_o _ _ _ _ (by omega), gNew_o _ _ _ _ (by omega), gRef_o _ _ _ _ (by omega), gNew_o _ _ _ _ (by omega), gRef_o _ _ _ _ (by omega), gNew_o _ _ _ _ (by omega), gRef_o _ _ _ _ (by omega), gNew_o _ _ _ _ (by omega), gRef_o _ _ _ _ (by omega), gNew_o _ _ _ _ (by omega), gRef_o _ _ _ _ (by omega), gRef_o _ _ _ _ (by omega), gNew_o _ _ _ _ (by omega), gNew_o _ _ _ _ (by omega)]
theorem gTre_k {G : Gm} {r c : Nat} (h : c ≤ r) : (gTre G r c).1 = (G c).1 := by
  unfold gTre
  rw [gRef_k, gNew_o _ _ _ _ (by omega), gRef_k, gNew_o _ _ _ _ (by omega), gRef_k, gNew_o _ _ _ _ (by omega), gRef_k, gNew_o _ _ _ _ (by omega), gRef_k, gNew_o _ _ _ _ (by omega), gRef_k, gNew_o _ _ _ _ (by omega), gRef_k, gNew_o _ _ _ _ (by omega), gRef_k, gNew_o _ _ _ _ (by omega), gRef_k, gNew_o _ _ _ _ (by omega), gRef_k, gNew_o _ _ _ _ (by omega), gRef_k, gRef_k, gNew_o _ _ _ _ (by omega), gNew_o _ _ _ _ (by omega)]
set_option maxHeartbeats 2000000 in
theorem c_tre {r M : Nat} {G : Gm} {I : Mm} (hk : (G r).1 = 7) : Fp none 58 0 [some (.ref r)] [] (r + 1, M, G, I) (fun rv σ' => rv = none ∧ ∃ (M' : Nat) (I' : Mm), σ' = (r + 13, M', gTre G r, I') ∧ M' ≤ M + 9433 ∧ (∀ c, c < r → I' c = I c) ∧ ∀ m, I' (r + 6) m = 0) := by
  refine fp_aload rfl rfl 1 rfl rfl ?_
  refine fp_oi (a := 0) (st := []) rfl rfl 4 rfl ?_
  refine fp_aload rfl rfl 5 rfl rfl ?_
  refine fp_new rfl rfl 8 rfl (r + 2) rfl (okl_1 (by omega)) (oks_1 (by omega)) (by decide) ?_
  refine fp_dup rfl rfl 9 rfl ?_
  refine fp_sipush rfl rfl 12 rfl ?_
  refine fp_is1 rfl rfl 15 rfl (by decide) rfl rfl (by simp) (by omega) (by rw [gNew_s]) (okl_1 (by omega)) (oks_2 (by omega) (by omega)) (c_en (len := 2592) (by rw [gNew_s]) (by decide) (by decide) (by decide)) ?_ (fun _ _ h => h.1)
  rintro _ ⟨_, rfl⟩
  refine fp_pr rfl rfl 18 rfl (by omega) (by rw [gRef_k, gNew_o _ _ _ _ (by omega), gNew_o _ _ _ _ (by omega)]; exact hk) rfl (by omega) ?_
  refine fp_aload rfl rfl 19 rfl rfl ?_
  refine fp_sipush rfl rfl 22 rfl ?_
  refine fp_na rfl rfl 24 rfl (r + 4) rfl (okl_1 (by omega)) (oks_1 (by omega)) 648 (by decide) (by decide) (by decide) (Or.inl rfl) ?_
  refine fp_pr rfl rfl 27 rfl (by omega) (by rw [gNew_o _ _ _ _ (by omega), gRef_k, gRef_k, gNew_o _ _ _ _ (by omega), gNew_o _ _ _ _ (by omega)]; exact hk) rfl (by omega) ?_
  refine fp_aload rfl rfl 28 rfl rfl ?_
  refine fp_iconst rfl rfl 29 rfl ?_
  refine fp_pi rfl rfl 32 rfl (by omega) (by rw [gRef_k, gNew_o _ _ _ _ (by omega), gRef_k, gRef_k, gNew_o _ _ _ _ (by omega), gNew_o _ _ _ _ (by omega)]; exact hk) rfl ?_
  refine fp_aload rfl rfl 33 rfl rfl ?_
  refine fp_sipush rfl rfl 36 rfl ?_
  refine fp_na rfl rfl 38 rfl (r + 5) rfl (okl_1 (by omega)) (oks_1 (by omega)) 1740 (by decide) (by decide) (by decide) (Or.inl rfl) ?_
  refine fp_pr rfl rfl 41 rfl (by omega) (by rw [gNew_o _ _ _ _ (by omega), gRef_k, gNew_o _ _ _ _ (by omega), gRef_k, gRef_k, gNew_o _ _ _ _ (by omega), gNew_o _ _ _ _ (by omega)]; exact hk) rfl (by omega) ?_
  refine fp_aload rfl rfl 42 rfl rfl ?_
  refine fp_sipush rfl rfl 45 rfl ?_
  refine fp_na rfl rfl 47 rfl (r + 6) rfl (okl_1 (by omega)) (oks_1 (by omega)) 2088 (by decide) (by decide) (by decide) (Or.inl rfl) ?_
  refine fp_pr rfl rfl 50 rfl (by omega) (by rw [gNew_o _ _ _ _ (by omega), gRef_k, gNew_o _ _ _ _ (by omega), gRef_k, gNew_o _ _ _ _ (by omega), gRef_k, gRef_k, gNew_o _ _ _ _ (by omega), gNew_o _ _ _ _ (by omega)]; exact hk) rfl (by omega) ?_
  refine fp_aload rfl rfl 51 rfl rfl ?_
  refine fp_sipush rfl rfl 54 rfl ?_
  refine fp_na rfl rfl 56 rfl (r + 7) rfl (okl_1 (by omega)) (oks_1 (by omega)) 348 (by decide) (by decide) (by decide) (Or.inl rfl) ?_
  refine fp_pr rfl rfl 59 rfl (by omega) (by rw [gNew_o _ _ _ _ (by omega), gRef_k, gNew_o _ _ _ _ (by omega), gRef_k, gNew_o _ _ _ _ (by omega), gRef_k, gNew_o _ _ _ _ (by omega), gRef_k, gRef_k, gNew_o _ _ _ _ (by omega), gNew_o _ _ _ _ (by omega)]; exact hk) rfl (by omega) ?_
  refine fp_aload rfl rfl 60 rfl rfl ?_
  refine fp_sipush rfl rfl 63 rfl ?_
  refine fp_na rfl rfl 65 rfl (r + 8) rfl (okl_1 (by omega)) (oks_1 (by omega)) 348 (by decide) (by decide) (by decide) (Or.inl rfl) ?_
  refine fp_pr rfl rfl 68 rfl (by omega) (by rw [gNew_o _ _ _ _ (by omega), gRef_k, gNew_o _ _ _ _ (by omega), gRef_k, gNew_o _ _ _ _ (by omega), gRef_k, gNew_o _ _ _ _ (by omega), gRef_k, gNew_o _ _ _ _ (by omega), gRef_k, gRef_k, gNew_o _ _ _ _ (by omega), gNew_o _ _ _ _ (by omega)]; exact hk) rfl (by omega) ?_
  refine fp_aload rfl rfl 69 rfl rfl ?_
  refine fp_iconst rfl rfl 70 rfl ?_
  refine fp_pi rfl rfl 73 rfl (by omega) (by rw [gRef_k, gNew_o _ _ _ _ (by omega), gRef_k, gNew_o _ _ _ _ (by omega), gRef_k, gNew_o _ _ _ _ (by omega), gRef_k, gNew_o _ _ _ _ (by omega), gRef_k, gNew_o _ _ _ _ (by omega), gRef_k, gRef_k, gNew_o _ _ _ _ (by omega), gNew_o _ _ _ _ (by omega)]; exact hk) rfl ?_
  refine fp_aload rfl rfl 74 rfl rfl ?_
  refine fp_iconst rfl rfl 75 rfl ?_
  refine fp_pi rfl rfl 78 rfl (by omega) (by rw [gRef_k, gNew_o _ _ _ _ (by omega), gRef_k, gNew_o _ _ _ _ (by omega), gRef_k, gNew_o _ _ _ _ (by omega), gRef_k, gNew_o _ _ _ _ (by omega), gRef_k, gNew_o _ _ _ _ (by omega), gRef_k, gRef_k, gNew_o _ _ _ _ (by omega), gNew_o _ _ _ _ (by omega)]; exact hk) rfl ?_
  refine fp_aload rfl rfl 79 rfl rfl ?_
  refine fp_bipush rfl rfl 81 rfl ?_
  refine fp_na rfl rfl 83 rfl (r + 9) rfl (okl_1 (by omega)) (oks_1 (by omega)) 12 (by decide) (by decide) (by decide) (Or.inl rfl) ?_
  refine fp_pr rfl rfl 86 rfl (by omega) (by rw [gNew_o _ _ _ _ (by omega), gRef_k, gNew_o _ _ _ _ (by omega), gRef_k, gNew_o _ _ _ _ (by omega), gRef_k, gNew_o _ _ _ _ (by omega), gRef_k, gNew_o _ _ _ _ (by omega), gRef_k, gNew_o _ _ _ _ (by omega), gRef_k, gRef_k, gNew_o _ _ _ _ (by omega), gNew_o _ _ _ _ (by omega)]; exact hk) rfl (by omega) ?_
  refine fp_aload rfl rfl 87 rfl rfl ?_
  refine fp_bipush rfl rfl 89 rfl ?_
  refine fp_na rfl rfl 91 rfl (r + 10) rfl (okl_1 (by omega)) (oks_1 (by omega)) 12 (by decide) (by decide) (by decide) (Or.inl rfl) ?_
  refine fp_pr rfl rfl 94 rfl (by omega) (by rw [gNew_o _ _ _ _ (by omega), gRef_k, gNew_o _ _ _ _ (by omega), gRef_k, gNew_o _ _ _ _ (by omega), gRef_k, gNew_o _ _ _ _ (by omega), gRef_k, gNew_o _ _ _ _ (by omega), gRef_k, gNew_o _ _ _ _ (by omega), gRef_k, gNew_o _ _ _ _ (by omega), gRef_k, gRef_k, gNew_o _ _ _ _ (by omega), gNew_o _ _ _ _ (by omega)]; exact hk) rfl (by omega) ?_
  refine fp_aload rfl rfl 95 rfl rfl ?_
  refine fp_iconst rfl rfl 96 rfl ?_
  refine fp_pi rfl rfl 99 rfl (by omega) (by rw [gRef_k, gNew_o _ _ _ _ (by omega), gRef_k, gNew_o _ _ _ _ (by omega), gRef_k, gNew_o _ _ _ _ (by omega), gRef_k, gNew_o _ _ _ _ (by omega), gRef_k, gNew_o _ _ _ _ (by omega), gRef_k, gNew_o _ _ _ _ (by omega), gRef_k, gNew_o _ _ _ _ (by omega), gRef_k, gRef_k, gNew_o _ _ _ _ (by omega), gNew_o _ _ _ _ (by omega)]; exact hk) rfl ?_
  refine fp_aload rfl rfl 100 rfl rfl ?_
  refine fp_sipush rfl rfl 103 rfl ?_
  refine fp_na rfl rfl 105 rfl (r + 11) rfl (okl_1 (by omega)) (oks_1 (by omega)) 648 (by decide) (by decide) (by decide) (Or.inl rfl) ?_
  refine fp_pr rfl rfl 108 rfl (by omega) (by rw [gNew_o _ _ _ _ (by omega), gRef_k, gNew_o _ _ _ _ (by omega), gRef_k, gNew_o _ _ _ _ (by omega), gRef_k, gNew_o _ _ _ _ (by omega), gRef_k, gNew_o _ _ _ _ (by omega), gRef_k, gNew_o _ _ _ _ (by omega), gRef_k, gNew_o _ _ _ _ (by omega), gRef_k, gNew_o _ _ _ _ (by omega), gRef_k, gRef_k, gNew_o _ _ _ _ (by omega), gNew_o _ _ _ _ (by omega)]; exact hk) rfl (by omega) ?_
  refine fp_aload rfl rfl 109 rfl rfl ?_
  refine fp_sipush rfl rfl 112 rfl ?_
  refine fp_na rfl rfl 114 rfl (r + 12) rfl (okl_1 (by omega)) (oks_1 (by omega)) 648 (by decide) (by decide) (by decide) (Or.inl rfl) ?_
  refine fp_pr rfl rfl 117 rfl (by omega) (by rw [gNew_o _ _ _ _ (by omega), gRef_k, gNew_o _ _ _ _ (by omega), gRef_k, gNew_o _ _ _ _ (by omega), gRef_k, gNew_o _ _ _ _ (by omega), gRef_k, gNew_o _ _ _ _ (by omega), gRef_k, gNew_o _ _ _ _ (by omega), gRef_k, gNew_o _ _ _ _ (by omega), gRef_k, gNew_o _ _ _ _ (by omega), gRef_k, gNew_o _ _ _ _ (by omega), gRef_k, gRef_k, gNew_o _ _ _ _ (by omega), gNew_o _ _ _ _ (by omega)]; exact hk) rfl (by omega) ?_
  refine fp_aload rfl rfl 118 rfl rfl ?_
  refine fp_iconst rfl rfl 119 rfl ?_
  refine fp_pb rfl rfl 122 rfl (by omega) (by rw [gRef_k, gNew_o _ _ _ _ (by omega), gRef_k, gNew_o _ _ _ _ (by omega), gRef_k, gNew_o _ _ _ _ (by omega), gRef_k, gNew_o _ _ _ _ (by omega), gRef_k, gNew_o _ _ _ _ (by omega), gRef_k, gNew_o _ _ _ _ (by omega), gRef_k, gNew_o _ _ _ _ (by omega), gRef_k, gNew_o _ _ _ _ (by omega), gRef_k, gNew_o _ _ _ _ (by omega), gRef_k, gRef_k, gNew_o _ _ _ _ (by omega), gNew_o _ _ _ _ (by omega)]; exact hk) rfl (Or.inl rfl) ?_
  refine fp_aload rfl rfl 123 rfl rfl ?_
  refine fp_iconst rfl rfl 124 rfl ?_
  refine fp_pi rfl rfl 127 rfl (by omega) (by rw [gRef_k, gNew_o _ _ _ _ (by omega), gRef_k, gNew_o _ _ _ _ (by omega), gRef_k, gNew_o _ _ _ _ (by omega), gRef_k, gNew_o _ _ _ _ (by omega), gRef_k, gNew_o _ _ _ _ (by omega), gRef_k, gNew_o _ _ _ _ (by omega), gRef_k, gNew_o _ _ _ _ (by omega), gRef_k, gNew_o _ _ _ _ (by omega), gRef_k, gNew_o _ _ _ _ (by omega), gRef_k, gRef_k, gNew_o _ _ _ _ (by omega), gNew_o _ _ _ _ (by omega)]; exact hk) rfl ?_
  refine fp_aload rfl rfl 128 rfl rfl ?_
  refine fp_sipush rfl rfl 131 rfl ?_
  refine fp_na rfl rfl 133 rfl (r + 13) rfl (okl_1 (by omega)) (oks_1 (by omega)) 348 (by decide) (by decide) (by decide) (Or.inl rfl) ?_
  refine fp_pr rfl rfl 136 rfl (by omega) (by rw [gNew_o _ _ _ _ (by omega), gRef_k, gNew_o _ _ _ _ (by omega), gRef_k, gNew_o _ _ _ _ (by omega), gRef_k, gNew_o _ _ _ _ (by omega), gRef_k, gNew_o _ _ _ _ (by omega), gRef_k, gNew_o _ _ _ _ (by omega), gRef_k, gNew_o _ _ _ _ (by omega), gRef_k, gNew_o _ _ _ _ (by omega), gRef_k, gNew_o _ _ _ _ (by omega), gRef_k, gNew_o _ _ _ _ (by omega), gRef_k, gRef_k, gNew_o _ _ _ _ (by omega), gNew_o _ _ _ _ (by omega)]; exact hk) rfl (by omega) ?_
  refine fp_aload rfl rfl 137 rfl rfl ?_
  refine fp_iv [] rfl rfl 140 rfl rfl rfl (by simp) (by omega) (by rw [gRef_k, gNew_o _ _ _ _ (by omega), gRef_k, gNew_o _ _ _ _ (by omega), gRef_k, gNew_o _ _ _ _ (by omega), gRef_k, gNew_o _ _ _ _ (by omega), gRef_k, gNew_o _ _ _ _ (by omega), gRef_k, gNew_o _ _ _ _ (by omega), gRef_k, gNew_o _ _ _ _ (by omega), gRef_k, gNew_o _ _ _ _ (by omega), gRef_k, gNew_o _ _ _ _ (by omega), gRef_k, gNew_o _ _ _ _ (by omega), gRef_k, gRef_k, gNew_o _ _ _ _ (by omega), gNew_o _ _ _ _ (by omega)]; exact hk) rfl (okl_1 (by omega)) rfl (c_emp (a1 := r + 3) (a4 := r + 5) (a5 := r + 6) (a6 := r + 7) (by omega) (by rw [gRef_k, gNew_o _ _ _ _ (by omega), gRef_k, gNew_o _ _ _ _ (by omega), gRef_k, gNew_o _ _ _ _ (by omega), gRef_k, gNew_o _ _ _ _ (by omega), gRef_k, gNew_o _ _ _ _ (by omega), gRef_k, gNew_o _ _ _ _ (by omega), gRef_k, gNew_o _ _ _ _ (by omega), gRef_k, gNew_o _ _ _ _ (by omega), gRef_k, gNew_o _ _ _ _ (by omega), gRef_k, gNew_o _ _ _ _ (by omega), gRef_k, gRef_k, gNew_o _ _ _ _ (by omega), gNew_o _ _ _ _ (by omega)]; exact hk) (by rw [gRef_j _ _ _ _ (by decide) _, gNew_o _ _ _ _ (by omega), gRef_j _ _ _ _ (by decide) _, gNew_o _ _ _ _ (by omega), gRef_j _ _ _ _ (by decide) _, gNew_o _ _ _ _ (by omega), gRef_j _ _ _ _ (by decide) _, gNew_o _ _ _ _ (by omega), gRef_j _ _ _ _ (by decide) _, gNew_o _ _ _ _ (by omega), gRef_j _ _ _ _ (by decide) _, gNew_o _ _ _ _ (by omega), gRef_j _ _ _ _ (by decide) _, gNew_o _ _ _ _ (by omega), gRef_j _ _ _ _ (by decide) _, gNew_o _ _ _ _ (by omega), gRef_j _ _ _ _ (by decide) _, gNew_o _ _ _ _ (by omega), gRef_s]) (by rw [gRef_j _ _ _ _ (by decide) _, gNew_o _ _ _ _ (by omega), gRef_j _ _ _ _ (by decide) _, gNew_o _ _ _ _ (by omega), gRef_j _ _ _ _ (by decide) _, gNew_o _ _ _ _ (by omega), gRef_j _ _ _ _ (by decide) _, gNew_o _ _ _ _ (by omega), gRef_j _ _ _ _ (by decide) _, gNew_o _ _ _ _ (by omega), gRef_j _ _ _ _ (by decide) _, gNew_o _ _ _ _ (by omega), gRef_j _ _ _ _ (by decide) _, gNew_o _ _ _ _ (by omega), gRef_s]) (by rw [gRef_j _ _ _ _ (by decide) _, gNew_o _ _ _ _ (by omega), gRef_j _ _ _ _ (by decide) _, gNew_o _ _ _ _ (by omega), gRef_j _ _ _ _ (by decide) _, gNew_o _ _ _ _ (by omega), gRef_j _ _ _ _ (by decide) _, gNew_o _ _ _ _ (by omega), gRef_j _ _ _ _ (by decide) _, gNew_o _ _ _ _ (by omega), gRef_j _ _ _ _ (by decide) _, gNew_o _ _ _ _ (by omega), gRef_s]) (by rw [gRef_j _ _ _ _ (by decide) _, gNew_o _ _ _ _ (by omega), gRef_j _ _ _ _ (by decide) _, gNew_o _ _ _ _ (by omega), gRef_j _ _ _ _ (by decide) _, gNew_o _ _ _ _ (by omega), gRef_j _ _ _ _ (by decide) _, gNew_o _ _ _ _ (by omega), gRef_j _ _ _ _ (by decide) _, gNew_o _ _ _ _ (by omega), gRef_s]) (by omega) (by omega) (by omega) (by omega) (by rw [gRef_k, gNew_o _ _ _ _ (by omega), gRef_k, gNew_o _ _ _ _ (by omega), gRef_k, gNew_o _ _ _ _ (by omega), gRef_k, gNew_o _ _ _ _ (by omega), gRef_k, gNew_o _ _ _ _ (by omega), gRef_k, gNew_o _ _ _ _ (by omega), gRef_k, gNew_o _ _ _ _ (by omega), gRef_k, gNew_o _ _ _ _ (by omega), gRef_k, gNew_o _ _ _ _ (by omega), gRef_k, gNew_s]) (by rw [gRef_k, gNew_o _ _ _ _ (by omega), gRef_k, gNew_o _ _ _ _ (by omega), gRef_k, gNew_o _ _ _ _ (by omega), gRef_k, gNew_o _ _ _ _ (by omega), gRef_k, gNew_o _ _ _ _ (by omega), gRef_k, gNew_o _ _ _ _ (by omega), gRef_k, gNew_o _ _ _ _ (by omega), gRef_k, gNew_s]) (by rw [gRef_k, gNew_o _ _ _ _ (by omega), gRef_k, gNew_o _ _ _ _ (by omega), gRef_k, gNew_o _ _ _ _ (by omega), gRef_k, gNew_o _ _ _ _ (by omega), gRef_k, gNew_o _ _ _ _ (by omega), gRef_k, gNew_o _ _ _ _ (by omega), gRef_k, gNew_s]) (by rw [gRef_k, gNew_o _ _ _ _ (by omega), gRef_k, gNew_o _ _ _ _ (by omega), gRef_k, gNew_o _ _ _ _ (by omega), gRef_k, gNew_o _ _ _ _ (by omega), gRef_k, gNew_o _ _ _ _ (by omega), gRef_k, gNew_s]) (by rw [gRef_l, gNew_o _ _ _ _ (by omega), gRef_l, gNew_o _ _ _ _ (by omega), gRef_l, gNew_o _ _ _ _ (by omega), gRef_l, gNew_o _ _ _ _ (by omega), gRef_l, gNew_o _ _ _ _ (by omega), gRef_l, gNew_o _ _ _ _ (by omega), gRef_l, gNew_o _ _ _ _ (by omega), gRef_l, gNew_o _ _ _ _ (by omega), gRef_l, gNew_o _ _ _ _ (by omega), gRef_l, gNew_s]) (by rw [gRef_l, gNew_o _ _ _ _ (by omega), gRef_l, gNew_o _ _ _ _ (by omega), gRef_l, gNew_o _ _ _ _ (by omega), gRef_l, gNew_o _ _ _ _ (by omega), gRef_l, gNew_o _ _ _ _ (by omega), gRef_l, gNew_o _ _ _ _ (by omega), gRef_l, gNew_o _ _ _ _ (by omega), gRef_l, gNew_s]) (by rw [gRef_l, gNew_o _ _ _ _ (by omega), gRef_l, gNew_o _ _ _ _ (by omega), gRef_l, gNew_o _ _ _ _ (by omega), gRef_l, gNew_o _ _ _ _ (by omega), gRef_l, gNew_o _ _ _ _ (by omega), gRef_l, gNew_o _ _ _ _ (by omega), gRef_l, gNew_s]) (by rw [gRef_l, gNew_o _ _ _ _ (by omega), gRef_l, gNew_o _ _ _ _ (by omega), gRef_l, gNew_o _ _ _ _ (by omega), gRef_l, gNew_o _ _ _ _ (by omega), gRef_l, gNew_o _ _ _ _ (by omega), gRef_l, gNew_s]) (by omega) (by omega) (by omega) (by omega) (by omega) (by omega)) ?_
  rintro _ _ ⟨rfl, I', rfl, g1, g2⟩
  refine fp_ret rfl rfl rfl ⟨rfl, _, I', rfl, by have : NC 0 = 1 := rfl; omega, fun c hc => ?_, fun m => ?_⟩
  · rw [g1 c (by omega) (by omega) (by omega) (by omega) (by omega), iNew_o _ _ (by omega), iW_o _ _ _ _ (by omega), iW_o _ _ _ _ (by omega), iNew_o _ _ (by omega), iNew_o _ _ (by omega), iW_o _ _ _ _ (by omega), iNew_o _ _ (by omega), iNew_o _ _ (by omega), iW_o _ _ _ _ (by omega), iW_o _ _ _ _ (by omega), iNew_o _ _ (by omega), iNew_o _ _ (by omega), iNew_o _ _ (by omega), iNew_o _ _ (by omega), iW_o _ _ _ _ (by omega), iNew_o _ _ (by omega), iNew_o _ _ (by omega), iNew_o _ _ (by omega)]
  · rw [g2 m, iNew_o _ _ (by omega), iW_o _ _ _ _ (by omega), iW_o _ _ _ _ (by omega), iNew_o _ _ (by omega), iNew_o _ _ (by omega), iW_o _ _ _ _ (by omega), iNew_o _ _ (by omega), iNew_o _ _ (by omega), iW_o _ _ _ _ (by omega), iW_o _ _ _ _ (by omega), iNew_o _ _ (by omega), iNew_s]
    split <;> rfl
def gIx (G : Gm) (r : Nat) : Gm := gRef (gRef (gNew (gNew (gRef (gPks (gNew (gRef (gLog (gNew (gRef (gTre (gNew (gRef (gNew G (r + 1) 10 3) r 3 (r + 1)) (r + 2) 7 0) (r + 2)) r 9 (r + 2)) (r + 15) 3 0) (r + 15)) r 10 (r + 15)) (r + 19) 4 0) (r + 19)) r 11 (r + 19)) (r + 23) 0 0) (r + 24) 10 4) (r + 23) 0 (r + 24)) r 12 (r + 23)
theorem gIx_o {G : Gm} {r c : Nat} (h : c < r) : gIx G r c = G c := by
  unfold gIx
  rw [gRef_o _ _ _ _ (by omega), gRef_o _ _ _ _ (by omega), gNew_o _ _ _ _ (by omega), gNew_o _ _ _ _ (by omega), gRef_o _ _ _ _ (by omega), gPks_o (by omega), gNew_o _ _ _ _ (by omega), gRef_o _ _ _ _ (by omega), gLog_o (by omega), gNew_o _ _ _ _ (by omega), gRef_o _ _ _ _ (by omega), gTre_o (by omega), gNew_o _ _ _ _ (by omega), gRef_o _ _ _ _ (by omega), gNew_o _ _ _ _ (by omega)]
theorem gIx_k {G : Gm} {r c : Nat} (h : c ≤ r) : (gIx G r c).1 = (G c).1 := by
  unfold gIx
  rw [gRef_k, gRef_k, gNew_o _ _ _ _ (by omega), gNew_o _ _ _ _ (by omega), gRef_k, gPks_k (by omega), gNew_o _ _ _ _ (by omega), gRef_k, gLog_k (by omega), gNew_o _ _ _ _ (by omega), gRef_k, gTre_k (by omega), gNew_o _ _ _ _ (by omega), gRef_k, gNew_o _ _ _ _ (by omega)]
set_option maxHeartbeats 2000000 in
theorem c_ixc {r M : Nat} {G : Gm} {I : Mm} (hk : (G r).1 = 2) (hz : I r = fun _ => 0) : Fp none 13 0 [some (.ref r)] [] (r + 1, M, G, I) (fun rv σ' => rv = none ∧ ∃ (M' : Nat) (I' : Mm), σ' = (r + 25, M', gIx G r, I') ∧ M' ≤ M + 14168 ∧ (∀ c, c < r → I' c = I c) ∧ I' r 0 = 0 ∧ ∀ m, I' (r + 8) m = 0) := by
  refine fp_aload rfl rfl 1 rfl rfl ?_
  refine fp_oi (a := 0) (st := []) rfl rfl 4 rfl ?_
  refine fp_aload rfl rfl 5 rfl rfl ?_
  refine fp_iconst rfl rfl 6 rfl ?_
  refine fp_pb rfl rfl 9 rfl (by omega) hk rfl (Or.inl rfl) ?_
  refine fp_aload rfl rfl 10 rfl rfl ?_
  refine fp_iconst rfl rfl 11 rfl ?_
  refine fp_pb rfl rfl 14 rfl (by omega) hk rfl (Or.inl rfl) ?_
  refine fp_aload rfl rfl 15 rfl rfl ?_
  refine fp_iconst rfl rfl 16 rfl ?_
  refine fp_pi rfl rfl 19 rfl (by omega) hk rfl ?_
  refine fp_aload rfl rfl 20 rfl rfl ?_
  refine fp_iconst rfl rfl 21 rfl ?_
  refine fp_na rfl rfl 23 rfl (r + 2) rfl (okl_1 (by omega)) (oks_1 (by omega)) 3 (by decide) (by decide) (by decide) (Or.inl rfl) ?_
  refine fp_pr rfl rfl 26 rfl (by omega) (by rw [gNew_o _ _ _ _ (by omega)]; exact hk) rfl (by omega) ?_
  refine fp_aload rfl rfl 27 rfl rfl ?_
  refine fp_iconst rfl rfl 28 rfl ?_
  refine fp_pi rfl rfl 31 rfl (by omega) (by rw [gRef_k, gNew_o _ _ _ _ (by omega)]; exact hk) rfl ?_
  refine fp_aload rfl rfl 32 rfl rfl ?_
  refine fp_iconst rfl rfl 33 rfl ?_
  refine fp_pi rfl rfl 36 rfl (by omega) (by rw [gRef_k, gNew_o _ _ _ _ (by omega)]; exact hk) rfl ?_
  refine fp_aload rfl rfl 37 rfl rfl ?_
  refine fp_iconst rfl rfl 38 rfl ?_
  refine fp_pi rfl rfl 41 rfl (by omega) (by rw [gRef_k, gNew_o _ _ _ _ (by omega)]; exact hk) rfl ?_
  refine fp_aload rfl rfl 42 rfl rfl ?_
  refine fp_iconst rfl rfl 43 rfl ?_
  refine fp_pi rfl rfl 46 rfl (by omega) (by rw [gRef_k, gNew_o _ _ _ _ (by omega)]; exact hk) rfl ?_
  refine fp_aload rfl rfl 47 rfl rfl ?_
  refine fp_iconst rfl rfl 48 rfl ?_
  refine fp_pi rfl rfl 51 rfl (by omega) (by rw [gRef_k, gNew_o _ _ _ _ (by omega)]; exact hk) rfl ?_
  refine fp_aload rfl rfl 52 rfl rfl ?_
  refine fp_new rfl rfl 55 rfl (r + 3) rfl (okl_1 (by omega)) (oks_1 (by omega)) (by decide) ?_
  refine fp_dup rfl rfl 56 rfl ?_
  refine fp_is0 rfl rfl 59 rfl (by decide) rfl rfl (by simp) (by omega) (by rw [gNew_s]) (okl_1 (by omega)) (oks_2 (by omega) (by omega)) (c_tre (by rw [gNew_s])) ?_ (fun _ _ h => h.1)
  rintro _ ⟨_, M1, I1, rfl, hM1, f1, f2⟩
  refine fp_pr rfl rfl 62 rfl (by omega) (by rw [gTre_k (by omega), gNew_o _ _ _ _ (by omega), gRef_k, gNew_o _ _ _ _ (by omega)]; exact hk) rfl (by omega) ?_
  refine fp_aload rfl rfl 63 rfl rfl ?_
  refine fp_new rfl rfl 66 rfl (r + 16) rfl (okl_1 (by omega)) (oks_1 (by omega)) (by decide) ?_
  refine fp_dup rfl rfl 67 rfl ?_
  refine fp_is0 rfl rfl 70 rfl (by decide) rfl rfl (by simp) (by omega) (by rw [gNew_s]) (okl_1 (by omega)) (oks_2 (by omega) (by omega)) (c_log (by rw [gNew_s])) ?_ (fun _ _ h => h.1)
  rintro _ ⟨_, M2, I2, rfl, hM2, f3⟩
  refine fp_pr rfl rfl 73 rfl (by omega) (by rw [gLog_k (by omega), gNew_o _ _ _ _ (by omega), gRef_k, gTre_k (by omega), gNew_o _ _ _ _ (by omega), gRef_k, gNew_o _ _ _ _ (by omega)]; exact hk) rfl (by omega) ?_
  refine fp_aload rfl rfl 74 rfl rfl ?_
  refine fp_new rfl rfl 77 rfl (r + 20) rfl (okl_1 (by omega)) (oks_1 (by omega)) (by decide) ?_
  refine fp_dup rfl rfl 78 rfl ?_
  refine fp_is0 rfl rfl 81 rfl (by decide) rfl rfl (by simp) (by omega) (by rw [gNew_s]) (okl_1 (by omega)) (oks_2 (by omega) (by omega)) (c_pks (by rw [gNew_s])) ?_ (fun _ _ h => h.1)
  rintro _ ⟨_, M3, I3, rfl, hM3, f4⟩
  refine fp_pr rfl rfl 84 rfl (by omega) (by rw [gPks_k (by omega), gNew_o _ _ _ _ (by omega), gRef_k, gLog_k (by omega), gNew_o _ _ _ _ (by omega), gRef_k, gTre_k (by omega), gNew_o _ _ _ _ (by omega), gRef_k, gNew_o _ _ _ _ (by omega)]; exact hk) rfl (by omega) ?_
  refine fp_aload rfl rfl 85 rfl rfl ?_
  refine fp_new rfl rfl 88 rfl (r + 24) rfl (okl_1 (by omega)) (oks_1 (by omega)) (by decide) ?_
  refine fp_dup rfl rfl 89 rfl ?_
  refine fp_iconst rfl rfl 90 rfl ?_
  refine fp_is1 rfl rfl 93 rfl (by decide) rfl rfl (by simp) (by omega) (by rw [gNew_s]) (okl_1 (by omega)) (oks_2 (by omega) (by omega)) (c_en (len := 4) (by rw [gNew_s]) (by decide) (by decide) (by decide)) ?_ (fun _ _ h => h.1)
  rintro _ ⟨_, rfl⟩
  refine fp_pr rfl rfl 96 rfl (by omega) (by rw [gRef_k, gNew_o _ _ _ _ (by omega), gNew_o _ _ _ _ (by omega), gRef_k, gPks_k (by omega), gNew_o _ _ _ _ (by omega), gRef_k, gLog_k (by omega), gNew_o _ _ _ _ (by omega), gRef_k, gTre_k (by omega), gNew_o _ _ _ _ (by omega), gRef_k, gNew_o _ _ _ _ (by omega)]; exact hk) rfl (by omega) ?_
  refine fp_ret rfl rfl rfl ⟨rfl, _, _, rfl, by have : NC 0 = 1 := rfl; have : NC 7 = 17 := rfl; have : NC 3 = 4 := rfl; have : NC 4 = 4 := rfl; omega, fun c hc => ?_, ?_, fun m => ?_⟩
  · rw [iNew_o _ _ (by omega), iNew_o _ _ (by omega), f4 _ (by omega), iNew_o _ _ (by omega), f3 _ (by omega), iNew_o _ _ (by omega), f1 _ (by omega), iNew_o _ _ (by omega), iW_o _ _ _ _ (by omega), iW_o _ _ _ _ (by omega), iW_o _ _ _ _ (by omega), iW_o _ _ _ _ (by omega), iW_o _ _ _ _ (by omega), iNew_o _ _ (by omega), iW_o _ _ _ _ (by omega), iW_o _ _ _ _ (by omega), iW_o _ _ _ _ (by omega)]
  · rw [iNew_o _ _ (by omega), iNew_o _ _ (by omega), f4 _ (by omega), iNew_o _ _ (by omega), f3 _ (by omega), iNew_o _ _ (by omega), f1 _ (by omega), iNew_o _ _ (by omega), iW_s, iW_s, iW_s, iW_s, iW_s, iNew_o _ _ (by omega), iW_s, iW_s, iW_s, hz]
    rfl
  · rw [iNew_o _ _ (by omega), iNew_o _ _ (by omega), f4 _ (by omega), iNew_o _ _ (by omega), f3 _ (by omega), iNew_o _ _ (by omega)]
    exact f2 m
