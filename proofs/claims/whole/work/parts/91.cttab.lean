/-! THE CLASS'S CONSTRUCTOR -/
def gPre (G : Gm) : Gm := gRef (gNew (gRef (gNew (gRef (gNew (gRef (gRef (gNew (gNew (gRef (gRef (gNew (gNew (gRef (gNew (gRef (gNew (gRef (gRow (gNew (gRef (gRow (gNew G 1 5 0) 1) 0 0 1) 7 5 0) 7) 0 1 7) 13 12 8) 0 2 13) 14 13 6) 0 3 14) 15 1 0) 16 10 5) 15 0 16) 0 4 15) 17 1 0) 18 10 5) 17 0 18) 0 5 17) 19 10 4) 0 6 19) 20 10 4) 0 7 20) 21 10 320) 0 8 21
def gTxs (G : Gm) : Nat → Gm
  | 0 => G
  | t + 1 => gRef (gTx (gNew (gTxs G t) (22 + 5 * t) 6 0) (22 + 5 * t)) 13 t (22 + 5 * t)
def gIxs (G : Gm) : Nat → Gm
  | 0 => G
  | i + 1 => gRef (gIx (gNew (gIxs G i) (62 + 25 * i) 2 0) (62 + 25 * i)) 14 i (62 + 25 * i)
theorem gTxs_k {G : Gm} {c : Nat} (h : c < 22) : ∀ t, (gTxs G t c).1 = (G c).1 ∧ (gTxs G t c).2.1 = (G c).2.1 ∧ (c ≠ 13 → gTxs G t c = G c)
  | 0 => ⟨rfl, rfl, fun _ => rfl⟩
  | t + 1 => by
    have ih := gTxs_k (G := G) h t
    refine ⟨?_, ?_, fun hc => ?_⟩
    · show (gRef (gTx (gNew (gTxs G t) (22 + 5 * t) 6 0) (22 + 5 * t)) 13 t (22 + 5 * t) c).1 = _
      rw [gRef_k, gTx_o (by omega), gNew_o _ _ _ _ (by omega), ih.1]
    · show (gRef (gTx (gNew (gTxs G t) (22 + 5 * t) 6 0) (22 + 5 * t)) 13 t (22 + 5 * t) c).2.1 = _
      rw [gRef_l, gTx_o (by omega), gNew_o _ _ _ _ (by omega), ih.2.1]
    · show gRef (gTx (gNew (gTxs G t) (22 + 5 * t) 6 0) (22 + 5 * t)) 13 t (22 + 5 * t) c = _
      rw [gRef_o _ _ _ _ hc, gTx_o (by omega), gNew_o _ _ _ _ (by omega), ih.2.2 hc]
theorem gIxs_k {G : Gm} {c : Nat} (h : c < 62) : ∀ t, (gIxs G t c).1 = (G c).1 ∧ (gIxs G t c).2.1 = (G c).2.1 ∧ (c ≠ 14 → gIxs G t c = G c)
  | 0 => ⟨rfl, rfl, fun _ => rfl⟩
  | t + 1 => by
    have ih := gIxs_k (G := G) h t
    refine ⟨?_, ?_, fun hc => ?_⟩
    · show (gRef (gIx (gNew (gIxs G t) (62 + 25 * t) 2 0) (62 + 25 * t)) 14 t (62 + 25 * t) c).1 = _
      rw [gRef_k, gIx_o (by omega), gNew_o _ _ _ _ (by omega), ih.1]
    · show (gRef (gIx (gNew (gIxs G t) (62 + 25 * t) 2 0) (62 + 25 * t)) 14 t (62 + 25 * t) c).2.1 = _
      rw [gRef_l, gIx_o (by omega), gNew_o _ _ _ _ (by omega), ih.2.1]
    · show gRef (gIx (gNew (gIxs G t) (62 + 25 * t) 2 0) (62 + 25 * t)) 14 t (62 + 25 * t) c = _
      rw [gRef_o _ _ _ _ hc, gIx_o (by omega), gNew_o _ _ _ _ (by omega), ih.2.2 hc]
set_option maxHeartbeats 1000000 in
theorem c_txs {M0 : Nat} {G1 : Gm} {J0 : Mm} {P : Option Value → Sg → Prop} (k0 : (G1 0).1 = 8) (r2 : (G1 0).2.2 2 = some 13) (k13 : (G1 13).1 = 12) (l13 : (G1 13).2.1 = 8)
    (h : ∀ (x : Int32) (M1 : Nat) (J : Mm), M1 ≤ M0 + 8 * 1406 → (∀ c, c < 22 → J c = J0 c) → (∀ s, s < 8 → J (22 + 5 * s) 0 = 0) → Fp none 85 133 [some (.ref 0), some (.int x)] [] (62, M1, gTxs G1 8, J) P) :
    ∀ (d t : Nat) (x : Int32) (M1 : Nat) (J : Mm), t + d = 8 → x = Int32.ofInt (t : Int) → M1 ≤ M0 + t * 1406 → (∀ c, c < 22 → J c = J0 c) → (∀ s, s < t → J (22 + 5 * s) 0 = 0) → Fp none 85 108 [some (.ref 0), some (.int x)] [] (22 + 5 * t, M1, gTxs G1 t, J) P := by
  intro d
  induction d with
  | zero =>
    intro t x M1 J ht hx hM f1 f2
    have t8 : t = 8 := by omega
    subst t8
    refine fp_iload rfl rfl 109 rfl rfl ?_
    refine fp_bipush rfl rfl 111 rfl ?_
    refine fp_ge1 rfl rfl ((le_n (j := 8) hx (by omega) rfl (by omega)).mpr (by omega)) ?_
    exact h x M1 J hM f1 f2
  | succ d ih =>
    intro t x M1 J ht hx hM f1 f2
    have a0 := gTxs_k (G := G1) (c := 0) (by omega) t
    have a13 := gTxs_k (G := G1) (c := 13) (by omega) t
    refine fp_iload rfl rfl 109 rfl rfl ?_
    refine fp_bipush rfl rfl 111 rfl ?_
    refine fp_ge0 rfl rfl 114 rfl (fun z => absurd ((le_n (j := 8) hx (by omega) rfl (by omega)).mp z) (by omega)) ?_
    refine fp_aload rfl rfl 115 rfl rfl ?_
    refine fp_gr rfl rfl 118 rfl (by omega) (by rw [a0.1]; exact k0) rfl (by rw [a0.2.2 (by omega)]; exact r2) ?_
    refine fp_iload rfl rfl 119 rfl rfl ?_
    refine fp_new rfl rfl 122 rfl (22 + 5 * t + 1) rfl (okl_2 (by omega)) (oks_3 (by omega)) (by decide) ?_
    refine fp_dup rfl rfl 123 rfl ?_
    refine fp_is0 rfl rfl 126 rfl (by decide) rfl rfl (by simp) (by omega) (by rw [gNew_s]) (okl_2 (by omega)) (oks_4 (by omega) (by omega)) (c_tx (by rw [gNew_s]) (by rw [iNew_s])) ?_ (fun _ _ h => h.1)
    rintro _ ⟨_, M2, J2, rfl, hM2, g1, g2⟩
    refine fp_aas rfl rfl 127 rfl (by omega) (by omega) (Or.inl ⟨by rw [gTx_o (by omega), gNew_o _ _ _ _ (by omega), a13.1]; exact k13, by rw [gTx_k (by omega), gNew_s]⟩) (by rw [gTx_o (by omega), gNew_o _ _ _ _ (by omega), a13.2.1, l13]; exact ibd_n hx (by omega) (by omega)) t (lit_n hx (by omega)).1 ?_
    refine fp_iinc rfl rfl 130 rfl rfl ?_
    refine fp_goto rfl rfl ?_
    have n6 : NC 6 = 5 := rfl
    refine ih (t + 1) (x + 1) M2 J2 (by omega) (inc_n hx) (by omega) (fun c hc => by rw [g1 c (by omega), iNew_o _ _ (by omega), f1 c hc]) (fun s hs => ?_)
    by_cases c : s = t
    · subst c; exact g2
    · rw [g1 _ (by omega), iNew_o _ _ (by omega)]; exact f2 s (by omega)
set_option maxHeartbeats 1000000 in
theorem c_ixs {M0 : Nat} {G1 : Gm} {J0 : Mm} {P : Option Value → Sg → Prop} (k0 : (G1 0).1 = 8) (r3 : (G1 0).2.2 3 = some 14) (k14 : (G1 14).1 = 13) (l14 : (G1 14).2.1 = 6)
    (h : ∀ (x : Int32) (M1 : Nat) (J : Mm), M1 ≤ M0 + 6 * 14181 → (∀ c, c < 62 → J c = J0 c) → (∀ s, s < 6 → J (62 + 25 * s) 0 = 0 ∧ ∀ m, J (62 + 25 * s + 8) m = 0) → Fp none 85 160 [some (.ref 0), some (.int x)] [] (212, M1, gIxs G1 6, J) P) :
    ∀ (d t : Nat) (x : Int32) (M1 : Nat) (J : Mm), t + d = 6 → x = Int32.ofInt (t : Int) → M1 ≤ M0 + t * 14181 → (∀ c, c < 62 → J c = J0 c) → (∀ s, s < t → J (62 + 25 * s) 0 = 0 ∧ ∀ m, J (62 + 25 * s + 8) m = 0) → Fp none 85 135 [some (.ref 0), some (.int x)] [] (62 + 25 * t, M1, gIxs G1 t, J) P := by
  intro d
  induction d with
  | zero =>
    intro t x M1 J ht hx hM f1 f2
    have t8 : t = 6 := by omega
    subst t8
    refine fp_iload rfl rfl 136 rfl rfl ?_
    refine fp_bipush rfl rfl 138 rfl ?_
    refine fp_ge1 rfl rfl ((le_n (j := 6) hx (by omega) rfl (by omega)).mpr (by omega)) ?_
    exact h x M1 J hM f1 f2
  | succ d ih =>
    intro t x M1 J ht hx hM f1 f2
    have a0 := gIxs_k (G := G1) (c := 0) (by omega) t
    have a14 := gIxs_k (G := G1) (c := 14) (by omega) t
    refine fp_iload rfl rfl 136 rfl rfl ?_
    refine fp_bipush rfl rfl 138 rfl ?_
    refine fp_ge0 rfl rfl 141 rfl (fun z => absurd ((le_n (j := 6) hx (by omega) rfl (by omega)).mp z) (by omega)) ?_
    refine fp_aload rfl rfl 142 rfl rfl ?_
    refine fp_gr rfl rfl 145 rfl (by omega) (by rw [a0.1]; exact k0) rfl (by rw [a0.2.2 (by omega)]; exact r3) ?_
    refine fp_iload rfl rfl 146 rfl rfl ?_
    refine fp_new rfl rfl 149 rfl (62 + 25 * t + 1) rfl (okl_2 (by omega)) (oks_3 (by omega)) (by decide) ?_
    refine fp_dup rfl rfl 150 rfl ?_
    refine fp_is0 rfl rfl 153 rfl (by decide) rfl rfl (by simp) (by omega) (by rw [gNew_s]) (okl_2 (by omega)) (oks_4 (by omega) (by omega)) (c_ixc (by rw [gNew_s]) (by rw [iNew_s])) ?_ (fun _ _ h => h.1)
    rintro _ ⟨_, M2, J2, rfl, hM2, g1, g2, g3⟩
    refine fp_aas rfl rfl 154 rfl (by omega) (by omega) (Or.inr ⟨by rw [gIx_o (by omega), gNew_o _ _ _ _ (by omega), a14.1]; exact k14, by rw [gIx_k (by omega), gNew_s]⟩) (by rw [gIx_o (by omega), gNew_o _ _ _ _ (by omega), a14.2.1, l14]; exact ibd_n hx (by omega) (by omega)) t (lit_n hx (by omega)).1 ?_
    refine fp_iinc rfl rfl 157 rfl rfl ?_
    refine fp_goto rfl rfl ?_
    have n2 : NC 2 = 13 := rfl
    refine ih (t + 1) (x + 1) M2 J2 (by omega) (inc_n hx) (by omega) (fun c hc => by rw [g1 c (by omega), iNew_o _ _ (by omega), f1 c hc]) (fun s hs => ?_)
    by_cases c : s = t
    · subst c; exact ⟨g2, g3⟩
    · have := f2 s (by omega)
      rw [g1 _ (by omega), iNew_o _ _ (by omega), g1 _ (by omega), iNew_o _ _ (by omega)]; exact this
/-- the class's cells, made -/
def FcC (I : Mm) : Prop := I 3 = (fun _ => 0) ∧ I 5 = (fun _ => 0) ∧ (∀ p, p < 320 → I 6 p = -1) ∧ (∀ s, s < 8 → I (22 + 5 * s) 0 = 0) ∧ (∀ s, s < 6 → I (62 + 25 * s) 0 = 0 ∧ ∀ m, I (62 + 25 * s + 8) m = 0) ∧ (I 0 9 = 0 ∧ I 0 10 = -1 ∧ I 0 11 = 0) ∧ (∀ f, f < 4 → I 19 f = -2147483648) ∧ ∀ f, f < 4 → I 20 f = 2147483647
def gTab (G : Gm) : Gm := gIxs (gTxs (gPre G) 8) 6
theorem gPre_f {G : Gm} (hk : (G 0).1 = 8) : (gPre G 0).1 = 8 ∧ (gPre G 0).2.2 2 = some 13 ∧ (gPre G 0).2.2 3 = some 14 ∧ (gPre G 0).2.2 6 = some 19 ∧ (gPre G 0).2.2 7 = some 20 ∧ (gPre G 13).1 = 12 ∧ (gPre G 13).2.1 = 8 ∧ (gPre G 14).1 = 13 ∧ (gPre G 14).2.1 = 6 ∧ (gPre G 19).1 = 10 ∧ (gPre G 19).2.1 = 4 ∧ (gPre G 20).1 = 10 ∧ (gPre G 20).2.1 = 4 := by
  unfold gPre
  exact ⟨(by rw [gRef_k, gNew_o _ _ _ _ (by omega), gRef_k, gNew_o _ _ _ _ (by omega), gRef_k, gNew_o _ _ _ _ (by omega), gRef_k, gRef_k, gNew_o _ _ _ _ (by omega), gNew_o _ _ _ _ (by omega), gRef_k, gRef_k, gNew_o _ _ _ _ (by omega), gNew_o _ _ _ _ (by omega), gRef_k, gNew_o _ _ _ _ (by omega), gRef_k, gNew_o _ _ _ _ (by omega), gRef_k, gRow_k (by omega), gNew_o _ _ _ _ (by omega), gRef_k, gRow_k (by omega), gNew_o _ _ _ _ (by omega)]; exact hk), (by rw [gRef_j _ _ _ _ (by decide) _, gNew_o _ _ _ _ (by omega), gRef_j _ _ _ _ (by decide) _, gNew_o _ _ _ _ (by omega), gRef_j _ _ _ _ (by decide) _, gNew_o _ _ _ _ (by omega), gRef_j _ _ _ _ (by decide) _, gRef_o _ _ _ _ (by omega), gNew_o _ _ _ _ (by omega), gNew_o _ _ _ _ (by omega), gRef_j _ _ _ _ (by decide) _, gRef_o _ _ _ _ (by omega), gNew_o _ _ _ _ (by omega), gNew_o _ _ _ _ (by omega), gRef_j _ _ _ _ (by decide) _, gNew_o _ _ _ _ (by omega), gRef_s]), (by rw [gRef_j _ _ _ _ (by decide) _, gNew_o _ _ _ _ (by omega), gRef_j _ _ _ _ (by decide) _, gNew_o _ _ _ _ (by omega), gRef_j _ _ _ _ (by decide) _, gNew_o _ _ _ _ (by omega), gRef_j _ _ _ _ (by decide) _, gRef_o _ _ _ _ (by omega), gNew_o _ _ _ _ (by omega), gNew_o _ _ _ _ (by omega), gRef_j _ _ _ _ (by decide) _, gRef_o _ _ _ _ (by omega), gNew_o _ _ _ _ (by omega), gNew_o _ _ _ _ (by omega), gRef_s]), (by rw [gRef_j _ _ _ _ (by decide) _, gNew_o _ _ _ _ (by omega), gRef_j _ _ _ _ (by decide) _, gNew_o _ _ _ _ (by omega), gRef_s]), (by rw [gRef_j _ _ _ _ (by decide) _, gNew_o _ _ _ _ (by omega), gRef_s]), (by rw [gRef_k, gNew_o _ _ _ _ (by omega), gRef_k, gNew_o _ _ _ _ (by omega), gRef_k, gNew_o _ _ _ _ (by omega), gRef_k, gRef_k, gNew_o _ _ _ _ (by omega), gNew_o _ _ _ _ (by omega), gRef_k, gRef_k, gNew_o _ _ _ _ (by omega), gNew_o _ _ _ _ (by omega), gRef_k, gNew_o _ _ _ _ (by omega), gRef_k, gNew_s]), (by rw [gRef_l, gNew_o _ _ _ _ (by omega), gRef_l, gNew_o _ _ _ _ (by omega), gRef_l, gNew_o _ _ _ _ (by omega), gRef_l, gRef_l, gNew_o _ _ _ _ (by omega), gNew_o _ _ _ _ (by omega), gRef_l, gRef_l, gNew_o _ _ _ _ (by omega), gNew_o _ _ _ _ (by omega), gRef_l, gNew_o _ _ _ _ (by omega), gRef_l, gNew_s]), (by rw [gRef_k, gNew_o _ _ _ _ (by omega), gRef_k, gNew_o _ _ _ _ (by omega), gRef_k, gNew_o _ _ _ _ (by omega), gRef_k, gRef_k, gNew_o _ _ _ _ (by omega), gNew_o _ _ _ _ (by omega), gRef_k, gRef_k, gNew_o _ _ _ _ (by omega), gNew_o _ _ _ _ (by omega), gRef_k, gNew_s]), (by rw [gRef_l, gNew_o _ _ _ _ (by omega), gRef_l, gNew_o _ _ _ _ (by omega), gRef_l, gNew_o _ _ _ _ (by omega), gRef_l, gRef_l, gNew_o _ _ _ _ (by omega), gNew_o _ _ _ _ (by omega), gRef_l, gRef_l, gNew_o _ _ _ _ (by omega), gNew_o _ _ _ _ (by omega), gRef_l, gNew_s]), (by rw [gRef_k, gNew_o _ _ _ _ (by omega), gRef_k, gNew_o _ _ _ _ (by omega), gRef_k, gNew_s]), (by rw [gRef_l, gNew_o _ _ _ _ (by omega), gRef_l, gNew_o _ _ _ _ (by omega), gRef_l, gNew_s]), (by rw [gRef_k, gNew_o _ _ _ _ (by omega), gRef_k, gNew_s]), (by rw [gRef_l, gNew_o _ _ _ _ (by omega), gRef_l, gNew_s])⟩
set_option maxHeartbeats 4000000 in
theorem c_tab {M : Nat} {G : Gm} {I : Mm} (hk : (G 0).1 = 8) (hz : I 0 = fun _ => 0) : Fp none 85 0 [some (.ref 0), none] [] (1, M, G, I) (fun rv σ' => rv = none ∧ ∃ (M' : Nat) (I' : Mm), σ' = (212, M', gTab G, I') ∧ M' ≤ M + 103738 ∧ FcC I') := by
  refine fp_aload rfl rfl 1 rfl rfl ?_
  refine fp_oi (a := 0) (st := []) rfl rfl 4 rfl ?_
  refine fp_aload rfl rfl 5 rfl rfl ?_
  refine fp_new rfl rfl 8 rfl 2 rfl (okl_2n (by omega)) (oks_1 (by omega)) (by decide) ?_
  refine fp_dup rfl rfl 9 rfl ?_
  refine fp_is0 rfl rfl 12 rfl (by decide) rfl rfl (by simp) (by omega) (by rw [gNew_s]) (okl_2n (by omega)) (oks_2 (by omega) (by omega)) (c_row (by rw [gNew_s])) ?_ (fun _ _ h => h.1)
  rintro _ ⟨_, Ma, Ia, rfl, hMa, fa, ga⟩
  refine fp_pr rfl rfl 15 rfl (by omega) (by rw [gRow_k (by omega), gNew_o _ _ _ _ (by omega)]; exact hk) rfl (by omega) ?_
  refine fp_aload rfl rfl 16 rfl rfl ?_
  refine fp_new rfl rfl 19 rfl 8 rfl (okl_2n (by omega)) (oks_1 (by omega)) (by decide) ?_
  refine fp_dup rfl rfl 20 rfl ?_
  refine fp_is0 rfl rfl 23 rfl (by decide) rfl rfl (by simp) (by omega) (by rw [gNew_s]) (okl_2n (by omega)) (oks_2 (by omega) (by omega)) (c_row (by rw [gNew_s])) ?_ (fun _ _ h => h.1)
  rintro _ ⟨_, Mb, Ib, rfl, hMb, fb, gb⟩
  refine fp_pr rfl rfl 26 rfl (by omega) (by rw [gRow_k (by omega), gNew_o _ _ _ _ (by omega), gRef_k, gRow_k (by omega), gNew_o _ _ _ _ (by omega)]; exact hk) rfl (by omega) ?_
  refine fp_aload rfl rfl 27 rfl rfl ?_
  refine fp_bipush rfl rfl 29 rfl ?_
  refine fp_nr rfl rfl 32 rfl 14 rfl (okl_2n (by omega)) (oks_1 (by omega)) 8 (by decide) (by decide) (by decide) (Or.inl rfl) ?_
  refine fp_pr rfl rfl 35 rfl (by omega) (by rw [gNew_o _ _ _ _ (by omega), gRef_k, gRow_k (by omega), gNew_o _ _ _ _ (by omega), gRef_k, gRow_k (by omega), gNew_o _ _ _ _ (by omega)]; exact hk) rfl (by omega) ?_
  refine fp_aload rfl rfl 36 rfl rfl ?_
  refine fp_bipush rfl rfl 38 rfl ?_
  refine fp_nr rfl rfl 41 rfl 15 rfl (okl_2n (by omega)) (oks_1 (by omega)) 6 (by decide) (by decide) (by decide) (Or.inr rfl) ?_
  refine fp_pr rfl rfl 44 rfl (by omega) (by rw [gNew_o _ _ _ _ (by omega), gRef_k, gNew_o _ _ _ _ (by omega), gRef_k, gRow_k (by omega), gNew_o _ _ _ _ (by omega), gRef_k, gRow_k (by omega), gNew_o _ _ _ _ (by omega)]; exact hk) rfl (by omega) ?_
  refine fp_aload rfl rfl 45 rfl rfl ?_
  refine fp_new rfl rfl 48 rfl 16 rfl (okl_2n (by omega)) (oks_1 (by omega)) (by decide) ?_
  refine fp_dup rfl rfl 49 rfl ?_
  refine fp_iconst rfl rfl 50 rfl ?_
  refine fp_is1 rfl rfl 53 rfl (by decide) rfl rfl (by simp) (by omega) (by rw [gNew_s]) (okl_2n (by omega)) (oks_2 (by omega) (by omega)) (c_im (len := 5) (by rw [gNew_s]) (by decide) (by decide) (by decide)) ?_ (fun _ _ h => h.1)
  rintro _ ⟨_, rfl⟩
  refine fp_pr rfl rfl 56 rfl (by omega) (by rw [gRef_k, gNew_o _ _ _ _ (by omega), gNew_o _ _ _ _ (by omega), gRef_k, gNew_o _ _ _ _ (by omega), gRef_k, gNew_o _ _ _ _ (by omega), gRef_k, gRow_k (by omega), gNew_o _ _ _ _ (by omega), gRef_k, gRow_k (by omega), gNew_o _ _ _ _ (by omega)]; exact hk) rfl (by omega) ?_
  refine fp_aload rfl rfl 57 rfl rfl ?_
  refine fp_new rfl rfl 60 rfl 18 rfl (okl_2n (by omega)) (oks_1 (by omega)) (by decide) ?_
  refine fp_dup rfl rfl 61 rfl ?_
  refine fp_iconst rfl rfl 62 rfl ?_
  refine fp_is1 rfl rfl 65 rfl (by decide) rfl rfl (by simp) (by omega) (by rw [gNew_s]) (okl_2n (by omega)) (oks_2 (by omega) (by omega)) (c_im (len := 5) (by rw [gNew_s]) (by decide) (by decide) (by decide)) ?_ (fun _ _ h => h.1)
  rintro _ ⟨_, rfl⟩
  refine fp_pr rfl rfl 68 rfl (by omega) (by rw [gRef_k, gNew_o _ _ _ _ (by omega), gNew_o _ _ _ _ (by omega), gRef_k, gRef_k, gNew_o _ _ _ _ (by omega), gNew_o _ _ _ _ (by omega), gRef_k, gNew_o _ _ _ _ (by omega), gRef_k, gNew_o _ _ _ _ (by omega), gRef_k, gRow_k (by omega), gNew_o _ _ _ _ (by omega), gRef_k, gRow_k (by omega), gNew_o _ _ _ _ (by omega)]; exact hk) rfl (by omega) ?_
  refine fp_aload rfl rfl 69 rfl rfl ?_
  refine fp_iconst rfl rfl 70 rfl ?_
  refine fp_na rfl rfl 72 rfl 20 rfl (okl_2n (by omega)) (oks_1 (by omega)) 4 (by decide) (by decide) (by decide) (Or.inl rfl) ?_
  refine fp_pr rfl rfl 75 rfl (by omega) (by rw [gNew_o _ _ _ _ (by omega), gRef_k, gRef_k, gNew_o _ _ _ _ (by omega), gNew_o _ _ _ _ (by omega), gRef_k, gRef_k, gNew_o _ _ _ _ (by omega), gNew_o _ _ _ _ (by omega), gRef_k, gNew_o _ _ _ _ (by omega), gRef_k, gNew_o _ _ _ _ (by omega), gRef_k, gRow_k (by omega), gNew_o _ _ _ _ (by omega), gRef_k, gRow_k (by omega), gNew_o _ _ _ _ (by omega)]; exact hk) rfl (by omega) ?_
  refine fp_aload rfl rfl 76 rfl rfl ?_
  refine fp_iconst rfl rfl 77 rfl ?_
  refine fp_na rfl rfl 79 rfl 21 rfl (okl_2n (by omega)) (oks_1 (by omega)) 4 (by decide) (by decide) (by decide) (Or.inl rfl) ?_
  refine fp_pr rfl rfl 82 rfl (by omega) (by rw [gNew_o _ _ _ _ (by omega), gRef_k, gNew_o _ _ _ _ (by omega), gRef_k, gRef_k, gNew_o _ _ _ _ (by omega), gNew_o _ _ _ _ (by omega), gRef_k, gRef_k, gNew_o _ _ _ _ (by omega), gNew_o _ _ _ _ (by omega), gRef_k, gNew_o _ _ _ _ (by omega), gRef_k, gNew_o _ _ _ _ (by omega), gRef_k, gRow_k (by omega), gNew_o _ _ _ _ (by omega), gRef_k, gRow_k (by omega), gNew_o _ _ _ _ (by omega)]; exact hk) rfl (by omega) ?_
  refine fp_aload rfl rfl 83 rfl rfl ?_
  refine fp_sipush rfl rfl 86 rfl ?_
  refine fp_na rfl rfl 88 rfl 22 rfl (okl_2n (by omega)) (oks_1 (by omega)) 320 (by decide) (by decide) (by decide) (Or.inl rfl) ?_
  refine fp_pr rfl rfl 91 rfl (by omega) (by rw [gNew_o _ _ _ _ (by omega), gRef_k, gNew_o _ _ _ _ (by omega), gRef_k, gNew_o _ _ _ _ (by omega), gRef_k, gRef_k, gNew_o _ _ _ _ (by omega), gNew_o _ _ _ _ (by omega), gRef_k, gRef_k, gNew_o _ _ _ _ (by omega), gNew_o _ _ _ _ (by omega), gRef_k, gNew_o _ _ _ _ (by omega), gRef_k, gNew_o _ _ _ _ (by omega), gRef_k, gRow_k (by omega), gNew_o _ _ _ _ (by omega), gRef_k, gRow_k (by omega), gNew_o _ _ _ _ (by omega)]; exact hk) rfl (by omega) ?_
  refine fp_aload rfl rfl 92 rfl rfl ?_
  refine fp_iconst rfl rfl 93 rfl ?_
  refine fp_pi rfl rfl 96 rfl (by omega) (by rw [gRef_k, gNew_o _ _ _ _ (by omega), gRef_k, gNew_o _ _ _ _ (by omega), gRef_k, gNew_o _ _ _ _ (by omega), gRef_k, gRef_k, gNew_o _ _ _ _ (by omega), gNew_o _ _ _ _ (by omega), gRef_k, gRef_k, gNew_o _ _ _ _ (by omega), gNew_o _ _ _ _ (by omega), gRef_k, gNew_o _ _ _ _ (by omega), gRef_k, gNew_o _ _ _ _ (by omega), gRef_k, gRow_k (by omega), gNew_o _ _ _ _ (by omega), gRef_k, gRow_k (by omega), gNew_o _ _ _ _ (by omega)]; exact hk) rfl ?_
  refine fp_aload rfl rfl 97 rfl rfl ?_
  refine fp_iconst rfl rfl 98 rfl ?_
  refine fp_pi rfl rfl 101 rfl (by omega) (by rw [gRef_k, gNew_o _ _ _ _ (by omega), gRef_k, gNew_o _ _ _ _ (by omega), gRef_k, gNew_o _ _ _ _ (by omega), gRef_k, gRef_k, gNew_o _ _ _ _ (by omega), gNew_o _ _ _ _ (by omega), gRef_k, gRef_k, gNew_o _ _ _ _ (by omega), gNew_o _ _ _ _ (by omega), gRef_k, gNew_o _ _ _ _ (by omega), gRef_k, gNew_o _ _ _ _ (by omega), gRef_k, gRow_k (by omega), gNew_o _ _ _ _ (by omega), gRef_k, gRow_k (by omega), gNew_o _ _ _ _ (by omega)]; exact hk) rfl ?_
  refine fp_aload rfl rfl 102 rfl rfl ?_
  refine fp_iconst rfl rfl 103 rfl ?_
  refine fp_pi rfl rfl 106 rfl (by omega) (by rw [gRef_k, gNew_o _ _ _ _ (by omega), gRef_k, gNew_o _ _ _ _ (by omega), gRef_k, gNew_o _ _ _ _ (by omega), gRef_k, gRef_k, gNew_o _ _ _ _ (by omega), gNew_o _ _ _ _ (by omega), gRef_k, gRef_k, gNew_o _ _ _ _ (by omega), gNew_o _ _ _ _ (by omega), gRef_k, gNew_o _ _ _ _ (by omega), gRef_k, gNew_o _ _ _ _ (by omega), gRef_k, gRow_k (by omega), gNew_o _ _ _ _ (by omega), gRef_k, gRow_k (by omega), gNew_o _ _ _ _ (by omega)]; exact hk) rfl ?_
  refine fp_iconst rfl rfl 107 rfl ?_
  refine fp_istore rfl rfl 108 rfl (by simp) ?_
  obtain ⟨q1, q2, q3, q4, q5, q6, q7, q8, q9, q10, q11, q12, q13⟩ := gPre_f (G := G) hk
  refine c_txs (G1 := gPre G) (M0 := M + 7404) q1 q2 q6 q7 ?_ 8 0 0 _ _ (by omega) rfl (by have : NC 5 = 3 := rfl; have : NC 1 = 1 := rfl; omega) (fun _ _ => rfl) (fun s hs => absurd hs (by omega))
  intro x1 M1 J1 hM1 e1 e2
  refine fp_iconst rfl rfl 134 rfl ?_
  refine fp_istore rfl rfl 135 rfl (by simp) ?_
  have a0 := gTxs_k (G := gPre G) (c := 0) (by omega) 8
  have a14 := gTxs_k (G := gPre G) (c := 14) (by omega) 8
  have a19 := gTxs_k (G := gPre G) (c := 19) (by omega) 8
  have a20 := gTxs_k (G := gPre G) (c := 20) (by omega) 8
  refine c_ixs (G1 := gTxs (gPre G) 8) (M0 := M1) (by rw [a0.1]; exact q1) (by rw [a0.2.2 (by omega)]; exact q3) (by rw [a14.1]; exact q8) (by rw [a14.2.1]; exact q9) ?_ 6 0 0 M1 J1 (by omega) rfl (by omega) (fun _ _ => rfl) (fun s hs => absurd hs (by omega))
  intro x2 M2 J2 hM2 d1 d2
  have b0 := gIxs_k (G := gTxs (gPre G) 8) (c := 0) (by omega) 6
  have b19 := gIxs_k (G := gTxs (gPre G) 8) (c := 19) (by omega) 6
  have b20 := gIxs_k (G := gTxs (gPre G) 8) (c := 20) (by omega) 6
  have c0 : gIxs (gTxs (gPre G) 8) 6 0 = gPre G 0 := by rw [b0.2.2 (by omega), a0.2.2 (by omega)]
  have c19 : gIxs (gTxs (gPre G) 8) 6 19 = gPre G 19 := by rw [b19.2.2 (by omega), a19.2.2 (by omega)]
  have c20 : gIxs (gTxs (gPre G) 8) 6 20 = gPre G 20 := by rw [b20.2.2 (by omega), a20.2.2 (by omega)]
  refine fp_aload rfl rfl 161 rfl rfl ?_
  refine fp_gr rfl rfl 164 rfl (by omega) (by rw [c0]; exact q1) rfl (by rw [c0]; exact q4) ?_
  refine fp_ldc rfl rfl 166 rfl ?_
  refine fp_st2 rfl rfl 169 rfl (by decide) (by decide) rfl rfl (by simp) (by omega) (okl_2 (by omega)) rfl (c_fill (len := 4) (by omega) (by rw [c19]; exact q10) (by rw [c19]; exact q11) (by decide)) ?_ (fun _ _ h => h.1)
  rintro _ ⟨_, J3, rfl, y1, y2⟩
  refine fp_aload rfl rfl 170 rfl rfl ?_
  refine fp_gr rfl rfl 173 rfl (by omega) (by rw [c0]; exact q1) rfl (by rw [c0]; exact q5) ?_
  refine fp_ldc rfl rfl 175 rfl ?_
  refine fp_st2 rfl rfl 178 rfl (by decide) (by decide) rfl rfl (by simp) (by omega) (okl_2 (by omega)) rfl (c_fill (len := 4) (by omega) (by rw [c20]; exact q12) (by rw [c20]; exact q13) (by decide)) ?_ (fun _ _ h => h.1)
  rintro _ ⟨_, J4, rfl, w1, w2⟩
  have dn : ∀ c, c < 22 → c ≠ 19 → c ≠ 20 → J4 c = J1 c := fun c h1 h2 h3 => by rw [w1 c h3, y1 c h2, d1 c (by omega)]
  refine fp_ret rfl rfl rfl ⟨rfl, M2, J4, rfl, by omega, ?_, ?_, fun p hp => ?_, fun s hs => ?_, fun s hs => ?_, ⟨?_, ?_, ?_⟩, fun f hf => ?_, w2⟩
  · rw [dn 3 (by omega) (by omega) (by omega), e1 3 (by omega), iW_o _ _ _ _ (by omega), iW_o _ _ _ _ (by omega), iW_o _ _ _ _ (by omega), iNew_o _ _ (by omega), iNew_o _ _ (by omega), iNew_o _ _ (by omega), iNew_o _ _ (by omega), iNew_o _ _ (by omega), iNew_o _ _ (by omega), iNew_o _ _ (by omega), iNew_o _ _ (by omega), iNew_o _ _ (by omega), fb _ (by omega), iNew_o _ _ (by omega)]; exact ga.1
  · rw [dn 5 (by omega) (by omega) (by omega), e1 5 (by omega), iW_o _ _ _ _ (by omega), iW_o _ _ _ _ (by omega), iW_o _ _ _ _ (by omega), iNew_o _ _ (by omega), iNew_o _ _ (by omega), iNew_o _ _ (by omega), iNew_o _ _ (by omega), iNew_o _ _ (by omega), iNew_o _ _ (by omega), iNew_o _ _ (by omega), iNew_o _ _ (by omega), iNew_o _ _ (by omega), fb _ (by omega), iNew_o _ _ (by omega)]; exact ga.2.1
  · rw [dn 6 (by omega) (by omega) (by omega), e1 6 (by omega), iW_o _ _ _ _ (by omega), iW_o _ _ _ _ (by omega), iW_o _ _ _ _ (by omega), iNew_o _ _ (by omega), iNew_o _ _ (by omega), iNew_o _ _ (by omega), iNew_o _ _ (by omega), iNew_o _ _ (by omega), iNew_o _ _ (by omega), iNew_o _ _ (by omega), iNew_o _ _ (by omega), iNew_o _ _ (by omega), fb _ (by omega), iNew_o _ _ (by omega)]; exact ga.2.2 p hp
  · rw [w1 _ (by omega), y1 _ (by omega), d1 _ (by omega)]; exact e2 s hs
  · have := d2 s hs
    rw [w1 _ (by omega), y1 _ (by omega), w1 _ (by omega), y1 _ (by omega)]; exact this
  · rw [dn 0 (by omega) (by omega) (by omega), e1 0 (by omega), iW_s, iW_s, iW_s, iNew_o _ _ (by omega), iNew_o _ _ (by omega), iNew_o _ _ (by omega), iNew_o _ _ (by omega), iNew_o _ _ (by omega), iNew_o _ _ (by omega), iNew_o _ _ (by omega), iNew_o _ _ (by omega), iNew_o _ _ (by omega)]; rfl
  · rw [dn 0 (by omega) (by omega) (by omega), e1 0 (by omega), iW_s, iW_s, iW_s, iNew_o _ _ (by omega), iNew_o _ _ (by omega), iNew_o _ _ (by omega), iNew_o _ _ (by omega), iNew_o _ _ (by omega), iNew_o _ _ (by omega), iNew_o _ _ (by omega), iNew_o _ _ (by omega), iNew_o _ _ (by omega)]; rfl
  · rw [dn 0 (by omega) (by omega) (by omega), e1 0 (by omega), iW_s, iW_s, iW_s, iNew_o _ _ (by omega), iNew_o _ _ (by omega), iNew_o _ _ (by omega), iNew_o _ _ (by omega), iNew_o _ _ (by omega), iNew_o _ _ (by omega), iNew_o _ _ (by omega), iNew_o _ _ (by omega), iNew_o _ _ (by omega)]; rfl
  · rw [w1 19 (by omega)]; exact y2 f hf
