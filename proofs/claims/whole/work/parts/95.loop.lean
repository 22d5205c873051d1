/-! THE LAW: its loop -/
theorem fp_ts1 {X : Option (Nat × (Nat → Int32))} {f pc n a b N M : Nat} {v x : Int32} {d lo hi : Int} {offs : Array Int} {G : Gm} {I : Mm} {ls : Lc} {st : List Value} {P : Option Value → Sg → Prop} {mm : MT} (hm : mT f = some mm) (hl : lkE (cd f) pc = some (pc, .tableswitch d lo hi offs, n, v, a, b)) (pc' : Nat) (hp : ((pc : Int) + d).toNat = pc') (hc : x.toInt < lo ∨ hi < x.toInt)
    (h : Fp X f pc' ls st (N, M, G, I) P) : Fp X f pc ls (.int x :: st) (N, M, G, I) P :=
  fp_stp hm hl (fun cl kn => by subst hp; exact if_pos hc) h
theorem fp_ts0 {X : Option (Nat × (Nat → Int32))} {f pc n a b N M : Nat} {v x : Int32} {d lo hi : Int} {offs : Array Int} {G : Gm} {I : Mm} {ls : Lc} {st : List Value} {P : Option Value → Sg → Prop} {mm : MT} (hm : mT f = some mm) (hl : lkE (cd f) pc = some (pc, .tableswitch d lo hi offs, n, v, a, b)) (pc' : Nat) (off k : Int) (hx : x.toInt = k) (hc : ¬ (k < lo ∨ hi < k)) (ho : offs[(k - lo).toNat]? = some off) (hp : ((pc : Int) + off).toNat = pc')
    (h : Fp X f pc' ls st (N, M, G, I) P) : Fp X f pc ls (.int x :: st) (N, M, G, I) P :=
  fp_stp hm hl (fun cl kn => by
    subst hp
    subst hx
    show (if x.toInt < lo ∨ hi < x.toInt then kn ((pc : Int) + d).toNat ls st (N, M, G, I) else (match offs[(x.toInt - lo).toNat]? with | some off => kn ((pc : Int) + off).toNat ls st (N, M, G, I) | none => none)) = _
    rw [if_neg hc, ho]) h
def PL (r : Option Value) (σ' : Sg) : Prop := r = some (.int 1) ∧ σ'.1 ≤ 600000 ∧ σ'.2.1 ≤ 7302250
theorem len_6 {L i : Nat} {x : Int32} (hL : L ≤ 3072) (hi : i ≤ 4000) (hx : x = Int32.ofInt (i : Int)) : Int32.ofNat L - 6 < x ↔ L < i + 6 := by
  have e : Int32.ofNat L - 6 = Int32.ofInt ((L : Int) - 6) := by
    rw [show Int32.ofNat L = Int32.ofInt (L : Int) from rfl, show (6 : Int32) = Int32.ofInt 6 from rfl, ← Int32.ofInt_sub]
  rw [e, Int32.lt_iff_toInt_lt, (lit_n hx (by omega)).2]
  have w : (Int32.ofInt ((L : Int) - 6)).toInt = (L : Int) - 6 := wrx (by omega) (by omega)
  rw [w]
  omega
set_option maxRecDepth 100000 in
set_option maxHeartbeats 2000000 in
theorem law_out {L M i : Nat} {xs : Nat → Int32} {x : Int32} {G : Gm} {I : Mm} (hL : L ≤ 3072) (hM : M ≤ 7302250) (hi : i ≤ 4000) (hx : x = Int32.ofInt (i : Int)) (h : L < i + 6) : Fp (some (L, xs)) 215 18 [some (.retAddr 0), some (.ref 0), some (.ref 212), some (.int x)] [] (260, M, G, I) PL := by
  refine fp_iload rfl rfl 19 rfl rfl ?_
  refine fp_aloadX rfl rfl 20 rfl rfl ?_
  refine fp_xl rfl rfl 21 rfl ?_
  refine fp_bipush rfl rfl 23 rfl ?_
  refine fp_isub rfl rfl 24 rfl ?_
  refine fp_gt1 rfl rfl ((len_6 hL hi hx).mpr h) ?_
  refine fp_iconst rfl rfl 892 rfl ?_
  exact fp_iz rfl rfl rfl (Or.inr rfl) ⟨rfl, by show 260 ≤ 600000; omega, hM⟩
set_option maxRecDepth 100000 in
set_option maxHeartbeats 4000000 in
theorem law_loop {L M : Nat} {xs : Nat → Int32} {G : Gm} (hL : L ≤ 3072) (hM : M ≤ 7302250) (hShp : Shp 260 G) : ∀ (d i : Nat) (x : Int32) (I : Mm) (S : St), L < i + 6 * d → i ≤ 3078 → x = Int32.ofInt (i : Int) → RSC I S → RSR I S → Inv S → Fp (some (L, xs)) 215 18 [some (.retAddr 0), some (.ref 0), some (.ref 212), some (.int x)] [] (260, M, G, I) PL := by
  intro d
  induction d with
  | zero => exact fun i x I S hd h3 hx _ _ _ => law_out hL hM (by omega) hx (by omega)
  | succ d ih =>
    intro i x I S hd h3 hx hS hR hI
    by_cases c : L < i + 6
    · exact law_out hL hM (by omega) hx c
    · have hi : i + 6 ≤ L := by omega
      have nx : ∀ (I' : Mm) (S' : St), RSC I' S' → RSR I' S' → Inv S' → Fp (some (L, xs)) 215 885 [some (.retAddr 0), some (.ref 0), some (.ref 212), some (.int x)] [] (260, M, G, I') PL := fun I' S' q1 q2 q3 => by
        refine fp_iinc rfl rfl 888 rfl rfl ?_
        refine fp_goto rfl rfl ?_
        refine ih (i + 6) (x + 6) I' S' (by omega) (by omega) ?_ q1 q2 q3
        rw [hx, show (6 : Int32) = Int32.ofInt 6 from rfl, ← Int32.ofInt_add]
        rfl
      refine fp_iload rfl rfl 19 rfl rfl ?_
      refine fp_aloadX rfl rfl 20 rfl rfl ?_
      refine fp_xl rfl rfl 21 rfl ?_
      refine fp_bipush rfl rfl 23 rfl ?_
      refine fp_isub rfl rfl 24 rfl ?_
      refine fp_gt0 rfl rfl 27 rfl (fun z => c ((len_6 hL (by omega) hx).mp z)) ?_
      refine fp_aloadX rfl rfl 28 rfl rfl ?_
      refine fp_iload rfl rfl 29 rfl rfl ?_
      refine fp_xal rfl rfl 30 rfl (ibd_n hx (by omega) (by omega)) ?_
      refine fp_bipush rfl rfl 32 rfl ?_
      refine fp_iand rfl rfl 33 rfl ?_
      obtain ⟨v, hv⟩ : ∃ v, v = xs x.toNatClampNeg &&& 31 := ⟨_, rfl⟩
      rw [← hv]
      by_cases c0 : v.toInt < 0 ∨ 22 < v.toInt
      · exact fp_ts1 rfl rfl 885 rfl c0 (nx I S hS hR hI)
      · have cs : v.toInt = 0 ∨ v.toInt = 1 ∨ v.toInt = 2 ∨ v.toInt = 3 ∨ v.toInt = 4 ∨ v.toInt = 5 ∨ v.toInt = 6 ∨ v.toInt = 7 ∨ v.toInt = 8 ∨ v.toInt = 9 ∨ v.toInt = 10 ∨ v.toInt = 11 ∨ v.toInt = 12 ∨ v.toInt = 13 ∨ v.toInt = 14 ∨ v.toInt = 15 ∨ v.toInt = 16 ∨ v.toInt = 17 ∨ v.toInt = 18 ∨ v.toInt = 19 ∨ v.toInt = 20 ∨ v.toInt = 21 ∨ v.toInt = 22 := by omega
        rcases cs with e | e | e | e | e | e | e | e | e | e | e | e | e | e | e | e | e | e | e | e | e | e | e
        · exact fp_ts0 rfl rfl 140 107 0 e (by omega) rfl rfl (lw_0 hL hx hi hShp hS hR hI nx)
        · exact fp_ts0 rfl rfl 153 120 1 e (by omega) rfl rfl (lw_1 hL hx hi hShp hS hR hI nx)
        · exact fp_ts0 rfl rfl 216 183 2 e (by omega) rfl rfl (lw_2 hL hx hi hShp hS hR hI nx)
        · exact fp_ts0 rfl rfl 269 236 3 e (by omega) rfl rfl (lw_3 hL hx hi hShp hS hR hI nx)
        · exact fp_ts0 rfl rfl 302 269 4 e (by omega) rfl rfl (lw_4 hL hx hi hShp hS hR hI nx)
        · exact fp_ts0 rfl rfl 325 292 5 e (by omega) rfl rfl (lw_5 hL hx hi hShp hS hR hI nx)
        · exact fp_ts0 rfl rfl 358 325 6 e (by omega) rfl rfl (lw_6 hL hx hi hShp hS hR hI nx)
        · exact fp_ts0 rfl rfl 381 348 7 e (by omega) rfl rfl (lw_7 hL hx hi hShp hS hR hI nx)
        · exact fp_ts0 rfl rfl 404 371 8 e (by omega) rfl rfl (lw_8 hL hx hi hShp hS hR hI nx)
        · exact fp_ts0 rfl rfl 473 440 9 e (by omega) rfl rfl (lw_9 hL hx hi hShp hS hR hI nx)
        · exact fp_ts0 rfl rfl 496 463 10 e (by omega) rfl rfl (lw_10 hL hx hi hShp hS hR hI nx)
        · exact fp_ts0 rfl rfl 529 496 11 e (by omega) rfl rfl (lw_11 hL hx hi hShp hS hR hI nx)
        · exact fp_ts0 rfl rfl 562 529 12 e (by omega) rfl rfl (lw_12 hL hx hi hShp hS hR hI nx)
        · exact fp_ts0 rfl rfl 605 572 13 e (by omega) rfl rfl (lw_13 hL hx hi hShp hS hR hI nx)
        · exact fp_ts0 rfl rfl 648 615 14 e (by omega) rfl rfl (lw_14 hL hx hi hShp hS hR hI nx)
        · exact fp_ts0 rfl rfl 681 648 15 e (by omega) rfl rfl (lw_15 hL hx hi hShp hS hR hI nx)
        · exact fp_ts0 rfl rfl 704 671 16 e (by omega) rfl rfl (lw_16 hL hx hi hShp hS hR hI nx)
        · exact fp_ts0 rfl rfl 727 694 17 e (by omega) rfl rfl (lw_17 hL hx hi hShp hS hR hI nx)
        · exact fp_ts0 rfl rfl 750 717 18 e (by omega) rfl rfl (lw_18 hL hx hi hShp hS hR hI nx)
        · exact fp_ts0 rfl rfl 783 750 19 e (by omega) rfl rfl (lw_19 hL hx hi hShp hS hR hI nx)
        · exact fp_ts0 rfl rfl 826 793 20 e (by omega) rfl rfl (lw_20 hL hx hi hShp hS hR hI nx)
        · exact fp_ts0 rfl rfl 849 816 21 e (by omega) rfl rfl (lw_21 hL hx hi hShp hS hR hI nx)
        · exact fp_ts0 rfl rfl 872 839 22 e (by omega) rfl rfl (lw_22 hL hx hi hShp hS hR hI nx)
theorem fcC_cg {I J : Mm} (h : ∀ c, c < 212 → J c = I c) (hI : FcC I) : FcC J := by
  obtain ⟨h3, h5, h6, ht, hx, ⟨q9, q10, q11⟩, hl, hh⟩ := hI
  refine ⟨by rw [h 3 (by omega)]; exact h3, by rw [h 5 (by omega)]; exact h5, fun p hp => by rw [h 6 (by omega)]; exact h6 p hp, fun s hs => by rw [h _ (by omega)]; exact ht s hs, fun s hs => by rw [h _ (by omega), h _ (by omega)]; exact hx s hs, ⟨by rw [h 0 (by omega)]; exact q9, by rw [h 0 (by omega)]; exact q10, by rw [h 0 (by omega)]; exact q11⟩, fun f hf => by rw [h 19 (by omega)]; exact hl f hf, fun f hf => by rw [h 20 (by omega)]; exact hh f hf⟩
set_option maxRecDepth 100000 in
set_option maxHeartbeats 4000000 in
theorem law_fp {L : Nat} {xs : Nat → Int32} (hL : L ≤ 3072) : Fp (some (L, xs)) 215 0 [some (.retAddr 0), none, none, none] [] sg0 PL := by
  show Fp (some (L, xs)) 215 0 [some (.retAddr 0), none, none, none] [] (0, 0, (fun _ => (0, 0, fun _ => none)), (fun _ _ => 0)) PL
  refine fp_new rfl rfl 3 rfl 1 rfl rfl rfl (by decide) ?_
  refine fp_dup rfl rfl 4 rfl ?_
  refine fp_is0 rfl rfl 7 rfl (by decide) rfl rfl (by simp) (by omega) (by rw [gNew_s]) rfl rfl (c_tab (by rw [gNew_s]) (by rw [iNew_s])) ?_ (fun _ _ h => h.1)
  rintro _ ⟨_, M1, I1, rfl, hM1, f1⟩
  refine fp_astore rfl rfl 8 rfl (by simp) ?_
  refine fp_new rfl rfl 11 rfl 213 rfl rfl rfl (by decide) ?_
  refine fp_dup rfl rfl 12 rfl ?_
  refine fp_is0 rfl rfl 15 rfl (by decide) rfl rfl (by simp) (by omega) (by rw [gNew_s]) rfl rfl (c_mod (by rw [gNew_s]) (by rw [iNew_s])) ?_ (fun _ _ h => h.1)
  rintro _ ⟨_, M2, I2, rfl, hM2, f2, f3⟩
  refine fp_astore rfl rfl 16 rfl (by simp) ?_
  refine fp_iconst rfl rfl 17 rfl ?_
  refine fp_istore rfl rfl 18 rfl (by simp) ?_
  have n8 : NC 8 = 12 := rfl
  have n9 : NC 9 = 55 := rfl
  have fC : FcC I2 := fcC_cg (fun c hc => by rw [f2 c hc, iNew_o _ _ (by omega)]) f1
  exact law_loop (G := gAll) hL (by omega) gAll_shp 513 0 0 I2 S00 (by omega) (by omega) rfl (rsc0 fC) (rsr0 f3) inv0
theorem law_run {L : Nat} (xs : Nat → Int32) (hL : L ≤ 3072) : ∃ (n : Nat) (σ' : Sg), run n (some (L, xs)) 215 0 [some (.retAddr 0), none, none, none] [] sg0 = some (some (.int 1), σ') ∧ σ'.1 ≤ 600000 ∧ σ'.2.1 ≤ 7302250 := by
  obtain ⟨n0, r, σ', h1, h2, h3, h4⟩ := law_fp (xs := xs) hL
  subst h2
  exact ⟨n0, σ', h1 n0 (Nat.le_refl _), h3, h4⟩
