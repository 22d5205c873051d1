/-! CONSTRUCTORS -/
theorem c_im {r M len : Nat} {G : Gm} {I : Mm} {x : Int32} (hk : (G r).1 = 1) (h3 : ¬ x * 5 < 0) (h4 : (x * 5).toNatClampNeg = len) (h5 : len ≤ 100000) : Fp none 5 0 [some (.ref r), some (.int x)] [] (r + 1, M, G, I) (fun rv σ' => rv = none ∧ σ' = (r + 2, M + len, gRef (gNew G (r + 1) 10 len) r 0 (r + 1), iNew I (r + 1))) := by
  refine fp_aload rfl rfl 1 rfl rfl ?_
  refine fp_oi (a := 0) (st := []) rfl rfl 4 rfl ?_
  refine fp_aload rfl rfl 5 rfl rfl ?_
  refine fp_iload rfl rfl 6 rfl rfl ?_
  refine fp_iconst rfl rfl 7 rfl ?_
  refine fp_imul rfl rfl 8 rfl ?_
  refine fp_na rfl rfl 10 rfl (r + 2) rfl (okl_2 (by omega)) (oks_1 (by omega)) len h3 h4 h5 (Or.inl rfl) ?_
  refine fp_pr rfl rfl 13 rfl (by omega) (by rw [gNew_o _ _ _ _ (by omega)]; exact hk) rfl (by omega) ?_
  exact fp_ret rfl rfl rfl ⟨rfl, rfl⟩
theorem c_en {r M len : Nat} {G : Gm} {I : Mm} {x : Int32} (hk : (G r).1 = 0) (h3 : ¬ x * 4 < 0) (h4 : (x * 4).toNatClampNeg = len) (h5 : len ≤ 100000) : Fp none 0 0 [some (.ref r), some (.int x)] [] (r + 1, M, G, I) (fun rv σ' => rv = none ∧ σ' = (r + 2, M + len, gRef (gNew G (r + 1) 10 len) r 0 (r + 1), iNew I (r + 1))) := by
  refine fp_aload rfl rfl 1 rfl rfl ?_
  refine fp_oi (a := 0) (st := []) rfl rfl 4 rfl ?_
  refine fp_aload rfl rfl 5 rfl rfl ?_
  refine fp_iload rfl rfl 6 rfl rfl ?_
  refine fp_iconst rfl rfl 7 rfl ?_
  refine fp_imul rfl rfl 8 rfl ?_
  refine fp_na rfl rfl 10 rfl (r + 2) rfl (okl_2 (by omega)) (oks_1 (by omega)) len h3 h4 h5 (Or.inl rfl) ?_
  refine fp_pr rfl rfl 13 rfl (by omega) (by rw [gNew_o _ _ _ _ (by omega)]; exact hk) rfl (by omega) ?_
  exact fp_ret rfl rfl rfl ⟨rfl, rfl⟩
theorem c_fill {N M a len : Nat} {G : Gm} {I : Mm} {v : Int32} (ha : a < N) (hk : (G a).1 = 10) (hl : (G a).2.1 = len) (h5 : len ≤ 100000) : Fp none 212 0 [some (.ref a), some (.int v), none, none] [] (N, M, G, I) (fun rv σ' => rv = none ∧ ∃ I' : Mm, σ' = (N, M, G, I') ∧ (∀ c, c ≠ a → I' c = I c) ∧ ∀ p, p < len → I' a p = v) := by
  refine fp_iconst rfl rfl 1 rfl ?_
  refine fp_istore rfl rfl 2 rfl (by simp) ?_
  refine fp_aload rfl rfl 3 rfl rfl ?_
  refine fp_al rfl rfl 4 rfl ha hk ?_
  refine fp_istore rfl rfl 5 rfl (by simp) ?_
  rw [hl]
  have loop : ∀ (d i : Nat) (x y : Int32) (J : Mm), i + d = len → x = Int32.ofInt (i : Int) → y = Int32.ofInt (len : Int) → (∀ c, c ≠ a → J c = I c) → (∀ p, p < i → J a p = v) → Fp none 212 5 [some (.ref a), some (.int v), some (.int x), some (.int y)] [] (N, M, G, J) (fun rv σ' => rv = none ∧ ∃ I' : Mm, σ' = (N, M, G, I') ∧ (∀ c, c ≠ a → I' c = I c) ∧ ∀ p, p < len → I' a p = v) := by
    intro d
    induction d with
    | zero =>
      intro i x y J hi hx hy f1 f2
      refine fp_iload rfl rfl 6 rfl rfl ?_
      refine fp_iload rfl rfl 7 rfl rfl ?_
      refine fp_ge1 rfl rfl ((le_n hx (by omega) hy (by omega)).mpr (by omega)) ?_
      exact fp_ret rfl rfl rfl ⟨rfl, J, rfl, f1, fun p hp => f2 p (by omega)⟩
    | succ d ih =>
      intro i x y J hi hx hy f1 f2
      refine fp_iload rfl rfl 6 rfl rfl ?_
      refine fp_iload rfl rfl 7 rfl rfl ?_
      refine fp_ge0 rfl rfl 10 rfl (fun z => absurd ((le_n hx (by omega) hy (by omega)).mp z) (by omega)) ?_
      refine fp_aload rfl rfl 11 rfl rfl ?_
      refine fp_iload rfl rfl 12 rfl rfl ?_
      refine fp_iload rfl rfl 13 rfl rfl ?_
      refine fp_ias rfl rfl 14 rfl ha hk (by rw [hl]; exact ibd_n hx (by omega) (by omega)) ?_
      refine fp_iinc rfl rfl 17 rfl rfl ?_
      refine fp_goto rfl rfl ?_
      rw [(lit_n hx (by omega)).1]
      refine ih (i + 1) (x + 1) y _ (by omega) (inc_n hx) hy (fun c hc => by rw [iW_o _ _ _ _ hc, f1 c hc]) (fun p hp => ?_)
      rw [iW_s]
      by_cases c : p = i
      · rw [c]; exact if_pos rfl
      · exact (if_neg c).trans (f2 p (by omega))
  exact loop len 0 0 (Int32.ofNat len) I (by omega) rfl rfl (fun _ _ => rfl) (fun p hp => absurd hp (by omega))
def gRow (G : Gm) (r : Nat) : Gm := gRef (gNew (gRef (gRef (gNew (gNew (gRef (gRef (gNew (gNew G (r + 1) 1 0) (r + 2) 10 1600) (r + 1) 0 (r + 2)) r 0 (r + 1)) (r + 3) 1 0) (r + 4) 10 1600) (r + 3) 0 (r + 4)) r 1 (r + 3)) (r + 5) 10 320) r 2 (r + 5)
theorem c_row {r M : Nat} {G : Gm} {I : Mm} (hk : (G r).1 = 5) : Fp none 49 0 [some (.ref r)] [] (r + 1, M, G, I) (fun rv σ' => rv = none ∧ ∃ (M' : Nat) (I' : Mm), σ' = (r + 6, M', gRow G r, I') ∧ M' ≤ M + 3522 ∧ (∀ c, c < r + 1 → I' c = I c) ∧ I' (r + 2) = (fun _ => 0) ∧ I' (r + 4) = (fun _ => 0) ∧ ∀ p, p < 320 → I' (r + 5) p = -1) := by
  refine fp_aload rfl rfl 1 rfl rfl ?_
  refine fp_oi (a := 0) (st := []) rfl rfl 4 rfl ?_
  refine fp_aload rfl rfl 5 rfl rfl ?_
  refine fp_new rfl rfl 8 rfl (r + 2) rfl (okl_1 (by omega)) (oks_1 (by omega)) (by decide) ?_
  refine fp_dup rfl rfl 9 rfl ?_
  refine fp_sipush rfl rfl 12 rfl ?_
  refine fp_is1 rfl rfl 15 rfl (by decide) rfl rfl (by simp) (by omega) (by rw [gNew_s]) (okl_1 (by omega)) (oks_2 (by omega) (by omega)) (c_im (len := 1600) (by rw [gNew_s]) (by decide) (by decide) (by decide)) ?_ (fun _ _ h => h.1)
  rintro _ ⟨_, rfl⟩
  refine fp_pr rfl rfl 18 rfl (by omega) (by rw [gRef_k, gNew_o _ _ _ _ (by omega), gNew_o _ _ _ _ (by omega)]; exact hk) rfl (by omega) ?_
  refine fp_aload rfl rfl 19 rfl rfl ?_
  refine fp_new rfl rfl 22 rfl (r + 4) rfl (okl_1 (by omega)) (oks_1 (by omega)) (by decide) ?_
  refine fp_dup rfl rfl 23 rfl ?_
  refine fp_sipush rfl rfl 26 rfl ?_
  refine fp_is1 rfl rfl 29 rfl (by decide) rfl rfl (by simp) (by omega) (by rw [gNew_s]) (okl_1 (by omega)) (oks_2 (by omega) (by omega)) (c_im (len := 1600) (by rw [gNew_s]) (by decide) (by decide) (by decide)) ?_ (fun _ _ h => h.1)
  rintro _ ⟨_, rfl⟩
  refine fp_pr rfl rfl 32 rfl (by omega) (by rw [gRef_k, gNew_o _ _ _ _ (by omega), gNew_o _ _ _ _ (by omega), gRef_k, gRef_k, gNew_o _ _ _ _ (by omega), gNew_o _ _ _ _ (by omega)]; exact hk) rfl (by omega) ?_
  refine fp_aload rfl rfl 33 rfl rfl ?_
  refine fp_sipush rfl rfl 36 rfl ?_
  refine fp_na rfl rfl 38 rfl (r + 6) rfl (okl_1 (by omega)) (oks_1 (by omega)) 320 (by decide) (by decide) (by decide) (Or.inl rfl) ?_
  refine fp_pr rfl rfl 41 rfl (by omega) (by rw [gNew_o _ _ _ _ (by omega), gRef_k, gRef_k, gNew_o _ _ _ _ (by omega), gNew_o _ _ _ _ (by omega), gRef_k, gRef_k, gNew_o _ _ _ _ (by omega), gNew_o _ _ _ _ (by omega)]; exact hk) rfl (by omega) ?_
  refine fp_aload rfl rfl 42 rfl rfl ?_
  refine fp_gr rfl rfl 45 rfl (by omega) (by rw [gRef_k, gNew_o _ _ _ _ (by omega), gRef_k, gRef_k, gNew_o _ _ _ _ (by omega), gNew_o _ _ _ _ (by omega), gRef_k, gRef_k, gNew_o _ _ _ _ (by omega), gNew_o _ _ _ _ (by omega)]; exact hk) rfl (by rw [gRef_s]) ?_
  refine fp_iconst rfl rfl 46 rfl ?_
  refine fp_st2 rfl rfl 49 rfl (by decide) (by decide) rfl rfl (by simp) (by omega) (okl_1 (by omega)) rfl (c_fill (len := 320) (by omega) (by rw [gRef_k, gNew_s]) (by rw [gRef_l, gNew_s]) (by decide)) ?_ (fun _ _ h => h.1)
  rintro _ ⟨_, I', rfl, g1, g2⟩
  refine fp_ret rfl rfl rfl ⟨rfl, _, I', rfl, by have : NC 1 = 1 := rfl; omega, fun c hc => ?_, ?_, ?_, g2⟩
  · rw [g1 c (by omega), iNew_o _ _ (by omega), iNew_o _ _ (by omega), iNew_o _ _ (by omega), iNew_o _ _ (by omega), iNew_o _ _ (by omega)]
  · rw [g1 _ (by omega), iNew_o _ _ (by omega), iNew_o _ _ (by omega), iNew_o _ _ (by omega), iNew_s]
  · rw [g1 _ (by omega), iNew_o _ _ (by omega), iNew_s]
theorem gRow_o {G : Gm} {r c : Nat} (h : c < r) : gRow G r c = G c := by
  unfold gRow
  rw [gRef_o _ _ _ _ (by omega), gNew_o _ _ _ _ (by omega), gRef_o _ _ _ _ (by omega), gRef_o _ _ _ _ (by omega), gNew_o _ _ _ _ (by omega), gNew_o _ _ _ _ (by omega), gRef_o _ _ _ _ (by omega), gRef_o _ _ _ _ (by omega), gNew_o _ _ _ _ (by omega), gNew_o _ _ _ _ (by omega)]
theorem gRow_k {G : Gm} {r c : Nat} (h : c ≤ r) : (gRow G r c).1 = (G c).1 := by
  unfold gRow
  rw [gRef_k, gNew_o _ _ _ _ (by omega), gRef_k, gRef_k, gNew_o _ _ _ _ (by omega), gNew_o _ _ _ _ (by omega), gRef_k, gRef_k, gNew_o _ _ _ _ (by omega), gNew_o _ _ _ _ (by omega)]
def gTx (G : Gm) (r : Nat) : Gm := gRef (gRef (gNew (gNew (gRef (gNew (gRef (gNew G (r + 1) 10 200) r 2 (r + 1)) (r + 2) 10 200) r 3 (r + 2)) (r + 3) 1 0) (r + 4) 10 1000) (r + 3) 0 (r + 4)) r 4 (r + 3)
theorem gTx_o {G : Gm} {r c : Nat} (h : c < r) : gTx G r c = G c := by
  unfold gTx
  rw [gRef_o _ _ _ _ (by omega), gRef_o _ _ _ _ (by omega), gNew_o _ _ _ _ (by omega), gNew_o _ _ _ _ (by omega), gRef_o _ _ _ _ (by omega), gNew_o _ _ _ _ (by omega), gRef_o _ _ _ _ (by omega), gNew_o _ _ _ _ (by omega)]
theorem gTx_k {G : Gm} {r c : Nat} (h : c ≤ r) : (gTx G r c).1 = (G c).1 := by
  unfold gTx
  rw [gRef_k, gRef_k, gNew_o _ _ _ _ (by omega), gNew_o _ _ _ _ (by omega), gRef_k, gNew_o _ _ _ _ (by omega), gRef_k, gNew_o _ _ _ _ (by omega)]
theorem c_tx {r M : Nat} {G : Gm} {I : Mm} (hk : (G r).1 = 6) (hz : I r = fun _ => 0) : Fp none 54 0 [some (.ref r)] [] (r + 1, M, G, I) (fun rv σ' => rv = none ∧ ∃ (M' : Nat) (I' : Mm), σ' = (r + 5, M', gTx G r, I') ∧ M' ≤ M + 1401 ∧ (∀ c, c < r → I' c = I c) ∧ I' r 0 = 0) := by
  refine fp_aload rfl rfl 1 rfl rfl ?_
  refine fp_oi (a := 0) (st := []) rfl rfl 4 rfl ?_
  refine fp_aload rfl rfl 5 rfl rfl ?_
  refine fp_iconst rfl rfl 6 rfl ?_
  refine fp_pb rfl rfl 9 rfl (by omega) hk rfl (Or.inl rfl) ?_
  refine fp_aload rfl rfl 10 rfl rfl ?_
  refine fp_iconst rfl rfl 11 rfl ?_
  refine fp_pi rfl rfl 14 rfl (by omega) hk rfl ?_
  refine fp_aload rfl rfl 15 rfl rfl ?_
  refine fp_sipush rfl rfl 18 rfl ?_
  refine fp_na rfl rfl 20 rfl (r + 2) rfl (okl_1 (by omega)) (oks_1 (by omega)) 200 (by decide) (by decide) (by decide) (Or.inl rfl) ?_
  refine fp_pr rfl rfl 23 rfl (by omega) (by rw [gNew_o _ _ _ _ (by omega)]; exact hk) rfl (by omega) ?_
  refine fp_aload rfl rfl 24 rfl rfl ?_
  refine fp_sipush rfl rfl 27 rfl ?_
  refine fp_na rfl rfl 29 rfl (r + 3) rfl (okl_1 (by omega)) (oks_1 (by omega)) 200 (by decide) (by decide) (by decide) (Or.inl rfl) ?_
  refine fp_pr rfl rfl 32 rfl (by omega) (by rw [gNew_o _ _ _ _ (by omega), gRef_k, gNew_o _ _ _ _ (by omega)]; exact hk) rfl (by omega) ?_
  refine fp_aload rfl rfl 33 rfl rfl ?_
  refine fp_new rfl rfl 36 rfl (r + 4) rfl (okl_1 (by omega)) (oks_1 (by omega)) (by decide) ?_
  refine fp_dup rfl rfl 37 rfl ?_
  refine fp_sipush rfl rfl 40 rfl ?_
  refine fp_is1 rfl rfl 43 rfl (by decide) rfl rfl (by simp) (by omega) (by rw [gNew_s]) (okl_1 (by omega)) (oks_2 (by omega) (by omega)) (c_im (len := 1000) (by rw [gNew_s]) (by decide) (by decide) (by decide)) ?_ (fun _ _ h => h.1)
  rintro _ ⟨_, rfl⟩
  refine fp_pr rfl rfl 46 rfl (by omega) (by rw [gRef_k, gNew_o _ _ _ _ (by omega), gNew_o _ _ _ _ (by omega), gRef_k, gNew_o _ _ _ _ (by omega), gRef_k, gNew_o _ _ _ _ (by omega)]; exact hk) rfl (by omega) ?_
  refine fp_ret rfl rfl rfl ⟨rfl, _, _, rfl, by have : NC 1 = 1 := rfl; omega, fun c hc => ?_, ?_⟩
  · rw [iNew_o _ _ (by omega), iNew_o _ _ (by omega), iNew_o _ _ (by omega), iNew_o _ _ (by omega), iW_o _ _ _ _ (by omega), iW_o _ _ _ _ (by omega)]
  · rw [iNew_o _ _ (by omega), iNew_o _ _ (by omega), iNew_o _ _ (by omega), iNew_o _ _ (by omega), iW_s, iW_s, hz]
    rfl
def gLog (G : Gm) (r : Nat) : Gm := gRef (gNew (gRef (gRef (gNew (gNew G (r + 1) 0 0) (r + 2) 10 1200) (r + 1) 0 (r + 2)) r 0 (r + 1)) (r + 3) 11 300) r 1 (r + 3)
theorem gLog_o {G : Gm} {r c : Nat} (h : c < r) : gLog G r c = G c := by
  unfold gLog
  rw [gRef_o _ _ _ _ (by omega), gNew_o _ _ _ _ (by omega), gRef_o _ _ _ _ (by omega), gRef_o _ _ _ _ (by omega), gNew_o _ _ _ _ (by omega), gNew_o _ _ _ _ (by omega)]
theorem gLog_k {G : Gm} {r c : Nat} (h : c ≤ r) : (gLog G r c).1 = (G c).1 := by
  unfold gLog
  rw [gRef_k, gNew_o _ _ _ _ (by omega), gRef_k, gRef_k, gNew_o _ _ _ _ (by omega), gNew_o _ _ _ _ (by omega)]
theorem c_log {r M : Nat} {G : Gm} {I : Mm} (hk : (G r).1 = 3) : Fp none 37 0 [some (.ref r)] [] (r + 1, M, G, I) (fun rv σ' => rv = none ∧ ∃ (M' : Nat) (I' : Mm), σ' = (r + 4, M', gLog G r, I') ∧ M' ≤ M + 1501 ∧ (∀ c, c < r → I' c = I c)) := by
  refine fp_aload rfl rfl 1 rfl rfl ?_
  refine fp_oi (a := 0) (st := []) rfl rfl 4 rfl ?_
  refine fp_aload rfl rfl 5 rfl rfl ?_
  refine fp_new rfl rfl 8 rfl (r + 2) rfl (okl_1 (by omega)) (oks_1 (by omega)) (by decide) ?_
  refine fp_dup rfl rfl 9 rfl ?_
  refine fp_sipush rfl rfl 12 rfl ?_
  refine fp_is1 rfl rfl 15 rfl (by decide) rfl rfl (by simp) (by omega) (by rw [gNew_s]) (okl_1 (by omega)) (oks_2 (by omega) (by omega)) (c_en (len := 1200) (by rw [gNew_s]) (by decide) (by decide) (by decide)) ?_ (fun _ _ h => h.1)
  rintro _ ⟨_, rfl⟩
  refine fp_pr rfl rfl 18 rfl (by omega) (by rw [gRef_k, gNew_o _ _ _ _ (by omega), gNew_o _ _ _ _ (by omega)]; exact hk) rfl (by omega) ?_
  refine fp_aload rfl rfl 19 rfl rfl ?_
  refine fp_sipush rfl rfl 22 rfl ?_
  refine fp_na rfl rfl 24 rfl (r + 4) rfl (okl_1 (by omega)) (oks_1 (by omega)) 300 (by decide) (by decide) (by decide) (Or.inr rfl) ?_
  refine fp_pr rfl rfl 27 rfl (by omega) (by rw [gNew_o _ _ _ _ (by omega), gRef_k, gRef_k, gNew_o _ _ _ _ (by omega), gNew_o _ _ _ _ (by omega)]; exact hk) rfl (by omega) ?_
  refine fp_aload rfl rfl 28 rfl rfl ?_
  refine fp_iconst rfl rfl 29 rfl ?_
  refine fp_pi rfl rfl 32 rfl (by omega) (by rw [gRef_k, gNew_o _ _ _ _ (by omega), gRef_k, gRef_k, gNew_o _ _ _ _ (by omega), gNew_o _ _ _ _ (by omega)]; exact hk) rfl ?_
  refine fp_aload rfl rfl 33 rfl rfl ?_
  refine fp_iconst rfl rfl 34 rfl ?_
  refine fp_pi rfl rfl 37 rfl (by omega) (by rw [gRef_k, gNew_o _ _ _ _ (by omega), gRef_k, gRef_k, gNew_o _ _ _ _ (by omega), gNew_o _ _ _ _ (by omega)]; exact hk) rfl ?_
  refine fp_ret rfl rfl rfl ⟨rfl, _, _, rfl, by have : NC 0 = 1 := rfl; omega, fun c hc => ?_⟩
  rw [iW_o _ _ _ _ (by omega), iW_o _ _ _ _ (by omega), iNew_o _ _ (by omega), iNew_o _ _ (by omega), iNew_o _ _ (by omega)]
def gPks (G : Gm) (r : Nat) : Gm := gRef (gNew (gRef (gRef (gNew (gNew G (r + 1) 0 0) (r + 2) 10 2560) (r + 1) 0 (r + 2)) r 0 (r + 1)) (r + 3) 10 640) r 1 (r + 3)
theorem gPks_o {G : Gm} {r c : Nat} (h : c < r) : gPks G r c = G c := by
  unfold gPks
  rw [gRef_o _ _ _ _ (by omega), gNew_o _ _ _ _ (by omega), gRef_o _ _ _ _ (by omega), gRef_o _ _ _ _ (by omega), gNew_o _ _ _ _ (by omega), gNew_o _ _ _ _ (by omega)]
theorem gPks_k {G : Gm} {r c : Nat} (h : c ≤ r) : (gPks G r c).1 = (G c).1 := by
  unfold gPks
  rw [gRef_k, gNew_o _ _ _ _ (by omega), gRef_k, gRef_k, gNew_o _ _ _ _ (by omega), gNew_o _ _ _ _ (by omega)]
theorem c_pks {r M : Nat} {G : Gm} {I : Mm} (hk : (G r).1 = 4) : Fp none 44 0 [some (.ref r)] [] (r + 1, M, G, I) (fun rv σ' => rv = none ∧ ∃ (M' : Nat) (I' : Mm), σ' = (r + 4, M', gPks G r, I') ∧ M' ≤ M + 3201 ∧ (∀ c, c < r → I' c = I c)) := by
  refine fp_aload rfl rfl 1 rfl rfl ?_
  refine fp_oi (a := 0) (st := []) rfl rfl 4 rfl ?_
  refine fp_aload rfl rfl 5 rfl rfl ?_
  refine fp_new rfl rfl 8 rfl (r + 2) rfl (okl_1 (by omega)) (oks_1 (by omega)) (by decide) ?_
  refine fp_dup rfl rfl 9 rfl ?_
  refine fp_sipush rfl rfl 12 rfl ?_
  refine fp_is1 rfl rfl 15 rfl (by decide) rfl rfl (by simp) (by omega) (by rw [gNew_s]) (okl_1 (by omega)) (oks_2 (by omega) (by omega)) (c_en (len := 2560) (by rw [gNew_s]) (by decide) (by decide) (by decide)) ?_ (fun _ _ h => h.1)
  rintro _ ⟨_, rfl⟩
  refine fp_pr rfl rfl 18 rfl (by omega) (by rw [gRef_k, gNew_o _ _ _ _ (by omega), gNew_o _ _ _ _ (by omega)]; exact hk) rfl (by omega) ?_
  refine fp_aload rfl rfl 19 rfl rfl ?_
  refine fp_sipush rfl rfl 22 rfl ?_
  refine fp_na rfl rfl 24 rfl (r + 4) rfl (okl_1 (by omega)) (oks_1 (by omega)) 640 (by decide) (by decide) (by decide) (Or.inl rfl) ?_
  refine fp_pr rfl rfl 27 rfl (by omega) (by rw [gNew_o _ _ _ _ (by omega), gRef_k, gRef_k, gNew_o _ _ _ _ (by omega), gNew_o _ _ _ _ (by omega)]; exact hk) rfl (by omega) ?_
  refine fp_aload rfl rfl 28 rfl rfl ?_
  refine fp_iconst rfl rfl 29 rfl ?_
  refine fp_pi rfl rfl 32 rfl (by omega) (by rw [gRef_k, gNew_o _ _ _ _ (by omega), gRef_k, gRef_k, gNew_o _ _ _ _ (by omega), gNew_o _ _ _ _ (by omega)]; exact hk) rfl ?_
  refine fp_aload rfl rfl 33 rfl rfl ?_
  refine fp_iconst rfl rfl 34 rfl ?_
  refine fp_pi rfl rfl 37 rfl (by omega) (by rw [gRef_k, gNew_o _ _ _ _ (by omega), gRef_k, gRef_k, gNew_o _ _ _ _ (by omega), gNew_o _ _ _ _ (by omega)]; exact hk) rfl ?_
  refine fp_ret rfl rfl rfl ⟨rfl, _, _, rfl, by have : NC 0 = 1 := rfl; omega, fun c hc => ?_⟩
  rw [iW_o _ _ _ _ (by omega), iW_o _ _ _ _ (by omega), iNew_o _ _ (by omega), iNew_o _ _ (by omega), iNew_o _ _ (by omega)]
