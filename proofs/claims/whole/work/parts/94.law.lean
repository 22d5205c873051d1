/-! THE LAW: its cases -/
theorem call_fp {g : Nat} {as : List AV} {I : Mm} {K : Int → Mm → Prop} {N M : Nat} {G : Gm} {mg : MT} (h : CallZ g as I K) (hS : Shp N G) (hg : mT g = some mg) : Fp none g 0 (entL mg (as.map av)) [] (N, M, G, I) (fun rv σ' => ∃ (x : Int) (I' : Mm), rv = some (.int (Int32.ofInt x)) ∧ σ' = (N, M, G, I') ∧ K x I') := by
  obtain ⟨mg', h1, h2⟩ := h
  rw [hg] at h1
  cases h1
  obtain ⟨n0, r, I', h3, x, hr, hin, hk⟩ := h2 N M G hS
  exact ⟨n0, r, _, h3, x, I', hr, rfl, hk⟩
theorem i32_in (z : Int32) : inR z.toInt := by
  have h1 := Int32.le_toInt z
  have h2 := Int32.toInt_lt z
  unfold inR
  constructor <;> omega
theorem fp_xal {L f pc n a b N M : Nat} {xs : Nat → Int32} {v i : Int32} {r : Nat} {G : Gm} {I : Mm} {ls : Lc} {st : List Value} {P : Option Value → Sg → Prop} {mm : MT} (hm : mT f = some mm) (hl : lkE (cd f) pc = some (pc, .iaload, n, v, a, b)) (pc' : Nat) (hp : pc + n = pc') (hi : ¬ ibd i L)
    (h : Fp (some (L, xs)) f pc' ls (.int (xs i.toNatClampNeg) :: st) (N, M, G, I) P) : Fp (some (L, xs)) f pc ls (.int i :: .retAddr r :: st) (N, M, G, I) P :=
  fp_stp hm hl (fun cl kn => by subst hp; exact if_neg hi) h
theorem fp_xl {L f pc n a b N M : Nat} {xs : Nat → Int32} {v : Int32} {r : Nat} {G : Gm} {I : Mm} {ls : Lc} {st : List Value} {P : Option Value → Sg → Prop} {mm : MT} (hm : mT f = some mm) (hl : lkE (cd f) pc = some (pc, .arraylength, n, v, a, b)) (pc' : Nat) (hp : pc + n = pc')
    (h : Fp (some (L, xs)) f pc' ls (.int (Int32.ofNat L) :: st) (N, M, G, I) P) : Fp (some (L, xs)) f pc ls (.retAddr r :: st) (N, M, G, I) P :=
  fp_stp hm hl (fun cl kn => by subst hp; exact rfl) h
theorem fp_eqz1 {X : Option (Nat × (Nat → Int32))} {f pc n a b N M : Nat} {v x : Int32} {k : Int} {G : Gm} {I : Mm} {ls : Lc} {st : List Value} {P : Option Value → Sg → Prop} {mm : MT} (hm : mT f = some mm) (hl : lkE (cd f) pc = some (pc, .ifCond .eq k, n, v, a, b)) (hc : x = 0)
    (h : Fp X f a ls st (N, M, G, I) P) : Fp X f pc ls (.int x :: st) (N, M, G, I) P :=
  fp_stp hm hl (fun cl kn => if_pos hc) h
theorem fp_eqz0 {X : Option (Nat × (Nat → Int32))} {f pc n a b N M : Nat} {v x : Int32} {k : Int} {G : Gm} {I : Mm} {ls : Lc} {st : List Value} {P : Option Value → Sg → Prop} {mm : MT} (hm : mT f = some mm) (hl : lkE (cd f) pc = some (pc, .ifCond .eq k, n, v, a, b)) (pc' : Nat) (hp : pc + n = pc') (hc : ¬ x = 0)
    (h : Fp X f pc' ls st (N, M, G, I) P) : Fp X f pc ls (.int x :: st) (N, M, G, I) P :=
  fp_stp hm hl (fun cl kn => by subst hp; exact if_neg hc) h
/-- one of the script's numbers is pushed -/
theorem fp_arg {L N M i : Nat} {xs : Nat → Int32} {x v1 v2 v3 v4 v5 : Int32} {G : Gm} {I : Mm} {l1 l2 : Option Value} {st : List Value} {P : Option Value → Sg → Prop} {b1 b2 a3 b3 a4 b4 a5 b5 : Nat} {e : Int} (k pc p1 p2 p3 p4 p5 : Nat) (h1 : lkE (cd 215) pc = some (pc, .aload_n 0, 1, v1, 0, b1)) (h2 : lkE (cd 215) p1 = some (p1, .iload_n 3, 1, v2, 3, b2)) (h3 : lkE (cd 215) p2 = some (p2, .iconst e, 1, v3, a3, b3)) (h4 : lkE (cd 215) p3 = some (p3, .iadd, 1, v4, a4, b4)) (h5 : lkE (cd 215) p4 = some (p4, .iaload, 1, v5, a5, b5)) (q1 : pc + 1 = p1) (q2 : p1 + 1 = p2) (q3 : p2 + 1 = p3) (q4 : p3 + 1 = p4) (q5 : p4 + 1 = p5) (hv : v3 = Int32.ofInt (k : Int))
    (hL : L ≤ 3072) (hx : x = Int32.ofInt (i : Int)) (hi : i + 6 ≤ L) (hk : k < 6) (h : Fp (some (L, xs)) 215 p5 [some (.retAddr 0), l1, l2, some (.int x)] (.int (Int32.ofInt (xs (i + k)).toInt) :: st) (N, M, G, I) P) : Fp (some (L, xs)) 215 pc [some (.retAddr 0), l1, l2, some (.int x)] st (N, M, G, I) P := by
  refine fp_aloadX rfl h1 p1 q1 rfl ?_
  refine fp_iload rfl h2 p2 q2 rfl ?_
  refine fp_iconst rfl h3 p3 q3 ?_
  refine fp_iadd rfl h4 p4 q4 ?_
  have e1 : x + v3 = Int32.ofInt ((i + k : Nat) : Int) := by rw [hx, hv, ← Int32.ofInt_add]; rfl
  refine fp_xal rfl h5 p5 q5 (ibd_n e1 (by omega) (by omega)) ?_
  rw [(lit_n e1 (by omega)).1]
  rw [Int32.ofInt_toInt] at h
  exact h
set_option maxRecDepth 100000 in
set_option maxHeartbeats 2000000 in
theorem lw_0 {L M i : Nat} {xs : Nat → Int32} {x : Int32} {G : Gm} {I : Mm} {S : St} {P : Option Value → Sg → Prop} (hL : L ≤ 3072) (hx : x = Int32.ofInt (i : Int)) (hi : i + 6 ≤ L) (hShp : Shp 260 G) (hS : RSC I S) (hR : RSR I S) (hI : Inv S) (nx : ∀ (I' : Mm) (S' : St), RSC I' S' → RSR I' S' → Inv S' → Fp (some (L, xs)) 215 885 [some (.retAddr 0), some (.ref 0), some (.ref 212), some (.int x)] [] (260, M, G, I') P) : Fp (some (L, xs)) 215 140 [some (.retAddr 0), some (.ref 0), some (.ref 212), some (.int x)] [] (260, M, G, I) P := by
  have hO := inv_sok hI
  have g0 : (G 0).1 = 8 := (hShp.1 (0, 0, 0) trivial (by decide)).2.1
  have g9 : (G 212).1 = 9 := (hShp.1 (3, 0, 0) trivial (by decide)).2.1
  refine fp_aload rfl rfl 141 rfl rfl ?_
  refine fp_iv [] rfl rfl 144 rfl rfl rfl (by simp) (by omega) g0 rfl rfl rfl (call_fp (c_begin (K := fun v I' => v = (oBegin S).1 ∧ HFr I I' ∧ RSC I' (oBegin S).2) hS (fun I' h1 h2 => ⟨rfl, h1, h2⟩)) hShp rfl) ?_
  rintro _ _ ⟨_, I1, rfl, rfl, rfl, h1, h2⟩
  have hR := rsr_h h1 hR
  refine fp_aload rfl rfl 145 rfl rfl ?_
  refine fp_iv [] rfl rfl 148 rfl rfl rfl (by simp) (by omega) g9 rfl rfl rfl (call_fp (c_rbegin (K := fun v I' => v = (oBegin S).1 ∧ LFr I1 I' ∧ RSR I' (oBegin S).2) hR hO (fun I' h1 h2 => ⟨rfl, h1, h2⟩)) hShp rfl) ?_
  rintro _ _ ⟨_, I2, rfl, rfl, rfl, h3, h4⟩
  refine fp_eq1 rfl rfl rfl ?_
  exact nx I2 _ (rsc_l h3 h2) h4 (inv_begin hI)
set_option maxRecDepth 100000 in
set_option maxHeartbeats 2000000 in
theorem lw_1 {L M i : Nat} {xs : Nat → Int32} {x : Int32} {G : Gm} {I : Mm} {S : St} {P : Option Value → Sg → Prop} (hL : L ≤ 3072) (hx : x = Int32.ofInt (i : Int)) (hi : i + 6 ≤ L) (hShp : Shp 260 G) (hS : RSC I S) (hR : RSR I S) (hI : Inv S) (nx : ∀ (I' : Mm) (S' : St), RSC I' S' → RSR I' S' → Inv S' → Fp (some (L, xs)) 215 885 [some (.retAddr 0), some (.ref 0), some (.ref 212), some (.int x)] [] (260, M, G, I') P) : Fp (some (L, xs)) 215 153 [some (.retAddr 0), some (.ref 0), some (.ref 212), some (.int x)] [] (260, M, G, I) P := by
  have hO := inv_sok hI
  have g0 : (G 0).1 = 8 := (hShp.1 (0, 0, 0) trivial (by decide)).2.1
  have g9 : (G 212).1 = 9 := (hShp.1 (3, 0, 0) trivial (by decide)).2.1
  refine fp_aload rfl rfl 154 rfl rfl ?_
  refine fp_arg 1 154 155 156 157 158 159 rfl rfl rfl rfl rfl rfl rfl rfl rfl rfl rfl hL hx hi (by omega) ?_
  refine fp_arg 2 159 160 161 162 163 164 rfl rfl rfl rfl rfl rfl rfl rfl rfl rfl rfl hL hx hi (by omega) ?_
  refine fp_arg 3 164 165 166 167 168 169 rfl rfl rfl rfl rfl rfl rfl rfl rfl rfl rfl hL hx hi (by omega) ?_
  refine fp_arg 4 169 170 171 172 173 174 rfl rfl rfl rfl rfl rfl rfl rfl rfl rfl rfl hL hx hi (by omega) ?_
  refine fp_arg 5 174 175 176 177 178 179 rfl rfl rfl rfl rfl rfl rfl rfl rfl rfl rfl hL hx hi (by omega) ?_
  refine fp_iv [.int (Int32.ofInt ((xs (i + 1)).toInt)), .int (Int32.ofInt ((xs (i + 2)).toInt)), .int (Int32.ofInt ((xs (i + 3)).toInt)), .int (Int32.ofInt ((xs (i + 4)).toInt)), .int (Int32.ofInt ((xs (i + 5)).toInt))] rfl rfl 182 rfl rfl rfl (by simp) (by omega) g0 rfl rfl rfl (call_fp (c_insert (K := fun v I' => v = (oIns S ((xs (i + 1)).toInt) ((xs (i + 2)).toInt) ((xs (i + 3)).toInt) ((xs (i + 4)).toInt) ((xs (i + 5)).toInt)).1 ∧ HFr I I' ∧ RSC I' (oIns S ((xs (i + 1)).toInt) ((xs (i + 2)).toInt) ((xs (i + 3)).toInt) ((xs (i + 4)).toInt) ((xs (i + 5)).toInt)).2) (i32_in _) (i32_in _) (i32_in _) (i32_in _) (i32_in _) hS hO (fun I' h1 h2 => ⟨rfl, h1, h2⟩)) hShp rfl) ?_
  rintro _ _ ⟨_, I1, rfl, rfl, rfl, h1, h2⟩
  have hR := rsr_h h1 hR
  refine fp_aload rfl rfl 183 rfl rfl ?_
  refine fp_arg 1 183 184 185 186 187 188 rfl rfl rfl rfl rfl rfl rfl rfl rfl rfl rfl hL hx hi (by omega) ?_
  refine fp_arg 2 188 189 190 191 192 193 rfl rfl rfl rfl rfl rfl rfl rfl rfl rfl rfl hL hx hi (by omega) ?_
  refine fp_arg 3 193 194 195 196 197 198 rfl rfl rfl rfl rfl rfl rfl rfl rfl rfl rfl hL hx hi (by omega) ?_
  refine fp_arg 4 198 199 200 201 202 203 rfl rfl rfl rfl rfl rfl rfl rfl rfl rfl rfl hL hx hi (by omega) ?_
  refine fp_arg 5 203 204 205 206 207 208 rfl rfl rfl rfl rfl rfl rfl rfl rfl rfl rfl hL hx hi (by omega) ?_
  refine fp_iv [.int (Int32.ofInt ((xs (i + 1)).toInt)), .int (Int32.ofInt ((xs (i + 2)).toInt)), .int (Int32.ofInt ((xs (i + 3)).toInt)), .int (Int32.ofInt ((xs (i + 4)).toInt)), .int (Int32.ofInt ((xs (i + 5)).toInt))] rfl rfl 211 rfl rfl rfl (by simp) (by omega) g9 rfl rfl rfl (call_fp (c_rinsert (K := fun v I' => v = (oIns S ((xs (i + 1)).toInt) ((xs (i + 2)).toInt) ((xs (i + 3)).toInt) ((xs (i + 4)).toInt) ((xs (i + 5)).toInt)).1 ∧ LFr I1 I' ∧ RSR I' (oIns S ((xs (i + 1)).toInt) ((xs (i + 2)).toInt) ((xs (i + 3)).toInt) ((xs (i + 4)).toInt) ((xs (i + 5)).toInt)).2) (i32_in _) (i32_in _) (i32_in _) (i32_in _) (i32_in _) hR hO (fun I' h1 h2 => ⟨rfl, h1, h2⟩)) hShp rfl) ?_
  rintro _ _ ⟨_, I2, rfl, rfl, rfl, h3, h4⟩
  refine fp_eq1 rfl rfl rfl ?_
  exact nx I2 _ (rsc_l h3 h2) h4 (inv_ins hI)
set_option maxRecDepth 100000 in
set_option maxHeartbeats 2000000 in
theorem lw_2 {L M i : Nat} {xs : Nat → Int32} {x : Int32} {G : Gm} {I : Mm} {S : St} {P : Option Value → Sg → Prop} (hL : L ≤ 3072) (hx : x = Int32.ofInt (i : Int)) (hi : i + 6 ≤ L) (hShp : Shp 260 G) (hS : RSC I S) (hR : RSR I S) (hI : Inv S) (nx : ∀ (I' : Mm) (S' : St), RSC I' S' → RSR I' S' → Inv S' → Fp (some (L, xs)) 215 885 [some (.retAddr 0), some (.ref 0), some (.ref 212), some (.int x)] [] (260, M, G, I') P) : Fp (some (L, xs)) 215 216 [some (.retAddr 0), some (.ref 0), some (.ref 212), some (.int x)] [] (260, M, G, I) P := by
  have hO := inv_sok hI
  have g0 : (G 0).1 = 8 := (hShp.1 (0, 0, 0) trivial (by decide)).2.1
  have g9 : (G 212).1 = 9 := (hShp.1 (3, 0, 0) trivial (by decide)).2.1
  refine fp_aload rfl rfl 217 rfl rfl ?_
  refine fp_arg 1 217 218 219 220 221 222 rfl rfl rfl rfl rfl rfl rfl rfl rfl rfl rfl hL hx hi (by omega) ?_
  refine fp_arg 2 222 223 224 225 226 227 rfl rfl rfl rfl rfl rfl rfl rfl rfl rfl rfl hL hx hi (by omega) ?_
  refine fp_arg 3 227 228 229 230 231 232 rfl rfl rfl rfl rfl rfl rfl rfl rfl rfl rfl hL hx hi (by omega) ?_
  refine fp_arg 4 232 233 234 235 236 237 rfl rfl rfl rfl rfl rfl rfl rfl rfl rfl rfl hL hx hi (by omega) ?_
  refine fp_iv [.int (Int32.ofInt ((xs (i + 1)).toInt)), .int (Int32.ofInt ((xs (i + 2)).toInt)), .int (Int32.ofInt ((xs (i + 3)).toInt)), .int (Int32.ofInt ((xs (i + 4)).toInt))] rfl rfl 240 rfl rfl rfl (by simp) (by omega) g0 rfl rfl rfl (call_fp (c_update (K := fun v I' => v = (oUpd S ((xs (i + 1)).toInt) ((xs (i + 2)).toInt) ((xs (i + 3)).toInt) ((xs (i + 4)).toInt)).1 ∧ HFr I I' ∧ RSC I' (oUpd S ((xs (i + 1)).toInt) ((xs (i + 2)).toInt) ((xs (i + 3)).toInt) ((xs (i + 4)).toInt)).2) (i32_in _) (i32_in _) (i32_in _) (i32_in _) hS hO (fun I' h1 h2 => ⟨rfl, h1, h2⟩)) hShp rfl) ?_
  rintro _ _ ⟨_, I1, rfl, rfl, rfl, h1, h2⟩
  have hR := rsr_h h1 hR
  refine fp_aload rfl rfl 241 rfl rfl ?_
  refine fp_arg 1 241 242 243 244 245 246 rfl rfl rfl rfl rfl rfl rfl rfl rfl rfl rfl hL hx hi (by omega) ?_
  refine fp_arg 2 246 247 248 249 250 251 rfl rfl rfl rfl rfl rfl rfl rfl rfl rfl rfl hL hx hi (by omega) ?_
  refine fp_arg 3 251 252 253 254 255 256 rfl rfl rfl rfl rfl rfl rfl rfl rfl rfl rfl hL hx hi (by omega) ?_
  refine fp_arg 4 256 257 258 259 260 261 rfl rfl rfl rfl rfl rfl rfl rfl rfl rfl rfl hL hx hi (by omega) ?_
  refine fp_iv [.int (Int32.ofInt ((xs (i + 1)).toInt)), .int (Int32.ofInt ((xs (i + 2)).toInt)), .int (Int32.ofInt ((xs (i + 3)).toInt)), .int (Int32.ofInt ((xs (i + 4)).toInt))] rfl rfl 264 rfl rfl rfl (by simp) (by omega) g9 rfl rfl rfl (call_fp (c_rupdate (K := fun v I' => v = (oUpd S ((xs (i + 1)).toInt) ((xs (i + 2)).toInt) ((xs (i + 3)).toInt) ((xs (i + 4)).toInt)).1 ∧ LFr I1 I' ∧ RSR I' (oUpd S ((xs (i + 1)).toInt) ((xs (i + 2)).toInt) ((xs (i + 3)).toInt) ((xs (i + 4)).toInt)).2) (i32_in _) (i32_in _) (i32_in _) (i32_in _) hR hO (fun I' h1 h2 => ⟨rfl, h1, h2⟩)) hShp rfl) ?_
  rintro _ _ ⟨_, I2, rfl, rfl, rfl, h3, h4⟩
  refine fp_eq1 rfl rfl rfl ?_
  exact nx I2 _ (rsc_l h3 h2) h4 (inv_upd hI)
set_option maxRecDepth 100000 in
set_option maxHeartbeats 2000000 in
theorem lw_3 {L M i : Nat} {xs : Nat → Int32} {x : Int32} {G : Gm} {I : Mm} {S : St} {P : Option Value → Sg → Prop} (hL : L ≤ 3072) (hx : x = Int32.ofInt (i : Int)) (hi : i + 6 ≤ L) (hShp : Shp 260 G) (hS : RSC I S) (hR : RSR I S) (hI : Inv S) (nx : ∀ (I' : Mm) (S' : St), RSC I' S' → RSR I' S' → Inv S' → Fp (some (L, xs)) 215 885 [some (.retAddr 0), some (.ref 0), some (.ref 212), some (.int x)] [] (260, M, G, I') P) : Fp (some (L, xs)) 215 269 [some (.retAddr 0), some (.ref 0), some (.ref 212), some (.int x)] [] (260, M, G, I) P := by
  have hO := inv_sok hI
  have g0 : (G 0).1 = 8 := (hShp.1 (0, 0, 0) trivial (by decide)).2.1
  have g9 : (G 212).1 = 9 := (hShp.1 (3, 0, 0) trivial (by decide)).2.1
  refine fp_aload rfl rfl 270 rfl rfl ?_
  refine fp_arg 1 270 271 272 273 274 275 rfl rfl rfl rfl rfl rfl rfl rfl rfl rfl rfl hL hx hi (by omega) ?_
  refine fp_arg 2 275 276 277 278 279 280 rfl rfl rfl rfl rfl rfl rfl rfl rfl rfl rfl hL hx hi (by omega) ?_
  refine fp_iv [.int (Int32.ofInt ((xs (i + 1)).toInt)), .int (Int32.ofInt ((xs (i + 2)).toInt))] rfl rfl 283 rfl rfl rfl (by simp) (by omega) g0 rfl rfl rfl (call_fp (c_remove (K := fun v I' => v = (oRem S ((xs (i + 1)).toInt) ((xs (i + 2)).toInt)).1 ∧ HFr I I' ∧ RSC I' (oRem S ((xs (i + 1)).toInt) ((xs (i + 2)).toInt)).2) (i32_in _) (i32_in _) hS hO (fun I' h1 h2 => ⟨rfl, h1, h2⟩)) hShp rfl) ?_
  rintro _ _ ⟨_, I1, rfl, rfl, rfl, h1, h2⟩
  have hR := rsr_h h1 hR
  refine fp_aload rfl rfl 284 rfl rfl ?_
  refine fp_arg 1 284 285 286 287 288 289 rfl rfl rfl rfl rfl rfl rfl rfl rfl rfl rfl hL hx hi (by omega) ?_
  refine fp_arg 2 289 290 291 292 293 294 rfl rfl rfl rfl rfl rfl rfl rfl rfl rfl rfl hL hx hi (by omega) ?_
  refine fp_iv [.int (Int32.ofInt ((xs (i + 1)).toInt)), .int (Int32.ofInt ((xs (i + 2)).toInt))] rfl rfl 297 rfl rfl rfl (by simp) (by omega) g9 rfl rfl rfl (call_fp (c_rremove (K := fun v I' => v = (oRem S ((xs (i + 1)).toInt) ((xs (i + 2)).toInt)).1 ∧ LFr I1 I' ∧ RSR I' (oRem S ((xs (i + 1)).toInt) ((xs (i + 2)).toInt)).2) (i32_in _) (i32_in _) hR hO (fun I' h1 h2 => ⟨rfl, h1, h2⟩)) hShp rfl) ?_
  rintro _ _ ⟨_, I2, rfl, rfl, rfl, h3, h4⟩
  refine fp_eq1 rfl rfl rfl ?_
  exact nx I2 _ (rsc_l h3 h2) h4 (inv_rem hI)
set_option maxRecDepth 100000 in
set_option maxHeartbeats 2000000 in
theorem lw_4 {L M i : Nat} {xs : Nat → Int32} {x : Int32} {G : Gm} {I : Mm} {S : St} {P : Option Value → Sg → Prop} (hL : L ≤ 3072) (hx : x = Int32.ofInt (i : Int)) (hi : i + 6 ≤ L) (hShp : Shp 260 G) (hS : RSC I S) (hR : RSR I S) (hI : Inv S) (nx : ∀ (I' : Mm) (S' : St), RSC I' S' → RSR I' S' → Inv S' → Fp (some (L, xs)) 215 885 [some (.retAddr 0), some (.ref 0), some (.ref 212), some (.int x)] [] (260, M, G, I') P) : Fp (some (L, xs)) 215 302 [some (.retAddr 0), some (.ref 0), some (.ref 212), some (.int x)] [] (260, M, G, I) P := by
  have hO := inv_sok hI
  have g0 : (G 0).1 = 8 := (hShp.1 (0, 0, 0) trivial (by decide)).2.1
  have g9 : (G 212).1 = 9 := (hShp.1 (3, 0, 0) trivial (by decide)).2.1
  refine fp_aload rfl rfl 303 rfl rfl ?_
  refine fp_arg 1 303 304 305 306 307 308 rfl rfl rfl rfl rfl rfl rfl rfl rfl rfl rfl hL hx hi (by omega) ?_
  refine fp_iv [.int (Int32.ofInt ((xs (i + 1)).toInt))] rfl rfl 311 rfl rfl rfl (by simp) (by omega) g0 rfl rfl rfl (call_fp (c_records (K := fun v I' => v = oRec S ((xs (i + 1)).toInt) ∧ HFr I I' ∧ RSC I' S) (i32_in _) hS hO ⟨rfl, fun _ _ => rfl, hS⟩) hShp rfl) ?_
  rintro _ _ ⟨_, I1, rfl, rfl, rfl, h1, h2⟩
  have hR := rsr_h h1 hR
  refine fp_aload rfl rfl 312 rfl rfl ?_
  refine fp_arg 1 312 313 314 315 316 317 rfl rfl rfl rfl rfl rfl rfl rfl rfl rfl rfl hL hx hi (by omega) ?_
  refine fp_iv [.int (Int32.ofInt ((xs (i + 1)).toInt))] rfl rfl 320 rfl rfl rfl (by simp) (by omega) g9 rfl rfl rfl (call_fp (c_rrecords (K := fun v I' => v = oRec S ((xs (i + 1)).toInt) ∧ LFr I1 I' ∧ RSR I' S) (i32_in _) hR hO ⟨rfl, fun _ _ => rfl, hR⟩) hShp rfl) ?_
  rintro _ _ ⟨_, I2, rfl, rfl, rfl, h3, h4⟩
  refine fp_eq1 rfl rfl rfl ?_
  exact nx I2 _ (rsc_l h3 h2) h4 (hI)
set_option maxRecDepth 100000 in
set_option maxHeartbeats 2000000 in
theorem lw_5 {L M i : Nat} {xs : Nat → Int32} {x : Int32} {G : Gm} {I : Mm} {S : St} {P : Option Value → Sg → Prop} (hL : L ≤ 3072) (hx : x = Int32.ofInt (i : Int)) (hi : i + 6 ≤ L) (hShp : Shp 260 G) (hS : RSC I S) (hR : RSR I S) (hI : Inv S) (nx : ∀ (I' : Mm) (S' : St), RSC I' S' → RSR I' S' → Inv S' → Fp (some (L, xs)) 215 885 [some (.retAddr 0), some (.ref 0), some (.ref 212), some (.int x)] [] (260, M, G, I') P) : Fp (some (L, xs)) 215 325 [some (.retAddr 0), some (.ref 0), some (.ref 212), some (.int x)] [] (260, M, G, I) P := by
  have hO := inv_sok hI
  have g0 : (G 0).1 = 8 := (hShp.1 (0, 0, 0) trivial (by decide)).2.1
  have g9 : (G 212).1 = 9 := (hShp.1 (3, 0, 0) trivial (by decide)).2.1
  refine fp_aload rfl rfl 326 rfl rfl ?_
  refine fp_arg 1 326 327 328 329 330 331 rfl rfl rfl rfl rfl rfl rfl rfl rfl rfl rfl hL hx hi (by omega) ?_
  refine fp_arg 2 331 332 333 334 335 336 rfl rfl rfl rfl rfl rfl rfl rfl rfl rfl rfl hL hx hi (by omega) ?_
  refine fp_iv [.int (Int32.ofInt ((xs (i + 1)).toInt)), .int (Int32.ofInt ((xs (i + 2)).toInt))] rfl rfl 339 rfl rfl rfl (by simp) (by omega) g0 rfl rfl rfl (call_fp (c_undo (K := fun v I' => v = (oUndo S ((xs (i + 1)).toInt) ((xs (i + 2)).toInt)).1 ∧ HFr I I' ∧ RSC I' (oUndo S ((xs (i + 1)).toInt) ((xs (i + 2)).toInt)).2) (i32_in _) (i32_in _) hS hO (inv_suk hI) (fun I' h1 h2 => ⟨rfl, h1, h2⟩)) hShp rfl) ?_
  rintro _ _ ⟨_, I1, rfl, rfl, rfl, h1, h2⟩
  have hR := rsr_h h1 hR
  refine fp_aload rfl rfl 340 rfl rfl ?_
  refine fp_arg 1 340 341 342 343 344 345 rfl rfl rfl rfl rfl rfl rfl rfl rfl rfl rfl hL hx hi (by omega) ?_
  refine fp_arg 2 345 346 347 348 349 350 rfl rfl rfl rfl rfl rfl rfl rfl rfl rfl rfl hL hx hi (by omega) ?_
  refine fp_iv [.int (Int32.ofInt ((xs (i + 1)).toInt)), .int (Int32.ofInt ((xs (i + 2)).toInt))] rfl rfl 353 rfl rfl rfl (by simp) (by omega) g9 rfl rfl rfl (call_fp (c_rundo (K := fun v I' => v = (oUndo S ((xs (i + 1)).toInt) ((xs (i + 2)).toInt)).1 ∧ LFr I1 I' ∧ RSR I' (oUndo S ((xs (i + 1)).toInt) ((xs (i + 2)).toInt)).2) (i32_in _) (i32_in _) hR hO (inv_suk hI) (inv_unc hI) (fun I' h1 h2 => ⟨rfl, h1, h2⟩)) hShp rfl) ?_
  rintro _ _ ⟨_, I2, rfl, rfl, rfl, h3, h4⟩
  refine fp_eq1 rfl rfl rfl ?_
  exact nx I2 _ (rsc_l h3 h2) h4 (inv_undo hI)
set_option maxRecDepth 100000 in
set_option maxHeartbeats 2000000 in
theorem lw_6 {L M i : Nat} {xs : Nat → Int32} {x : Int32} {G : Gm} {I : Mm} {S : St} {P : Option Value → Sg → Prop} (hL : L ≤ 3072) (hx : x = Int32.ofInt (i : Int)) (hi : i + 6 ≤ L) (hShp : Shp 260 G) (hS : RSC I S) (hR : RSR I S) (hI : Inv S) (nx : ∀ (I' : Mm) (S' : St), RSC I' S' → RSR I' S' → Inv S' → Fp (some (L, xs)) 215 885 [some (.retAddr 0), some (.ref 0), some (.ref 212), some (.int x)] [] (260, M, G, I') P) : Fp (some (L, xs)) 215 358 [some (.retAddr 0), some (.ref 0), some (.ref 212), some (.int x)] [] (260, M, G, I) P := by
  have hO := inv_sok hI
  have g0 : (G 0).1 = 8 := (hShp.1 (0, 0, 0) trivial (by decide)).2.1
  have g9 : (G 212).1 = 9 := (hShp.1 (3, 0, 0) trivial (by decide)).2.1
  refine fp_aload rfl rfl 359 rfl rfl ?_
  refine fp_arg 1 359 360 361 362 363 364 rfl rfl rfl rfl rfl rfl rfl rfl rfl rfl rfl hL hx hi (by omega) ?_
  refine fp_iv [.int (Int32.ofInt ((xs (i + 1)).toInt))] rfl rfl 367 rfl rfl rfl (by simp) (by omega) g0 rfl rfl rfl (call_fp (c_commitO (K := fun v I' => v = (oCommit S ((xs (i + 1)).toInt)).1 ∧ HFr I I' ∧ RSC I' (oCommit S ((xs (i + 1)).toInt)).2) (i32_in _) hS hO (inv_suk hI) (fun I' h1 h2 => ⟨rfl, h1, h2⟩)) hShp rfl) ?_
  rintro _ _ ⟨_, I1, rfl, rfl, rfl, h1, h2⟩
  have hR := rsr_h h1 hR
  refine fp_aload rfl rfl 368 rfl rfl ?_
  refine fp_arg 1 368 369 370 371 372 373 rfl rfl rfl rfl rfl rfl rfl rfl rfl rfl rfl hL hx hi (by omega) ?_
  refine fp_iv [.int (Int32.ofInt ((xs (i + 1)).toInt))] rfl rfl 376 rfl rfl rfl (by simp) (by omega) g9 rfl rfl rfl (call_fp (c_rcommit (K := fun v I' => v = (oCommit S ((xs (i + 1)).toInt)).1 ∧ LFr I1 I' ∧ RSR I' (oCommit S ((xs (i + 1)).toInt)).2) (i32_in _) hR hO (inv_suk hI) (fun I' h1 h2 => ⟨rfl, h1, h2⟩)) hShp rfl) ?_
  rintro _ _ ⟨_, I2, rfl, rfl, rfl, h3, h4⟩
  refine fp_eq1 rfl rfl rfl ?_
  exact nx I2 _ (rsc_l h3 h2) h4 (inv_commit hI)
set_option maxRecDepth 100000 in
set_option maxHeartbeats 2000000 in
theorem lw_7 {L M i : Nat} {xs : Nat → Int32} {x : Int32} {G : Gm} {I : Mm} {S : St} {P : Option Value → Sg → Prop} (hL : L ≤ 3072) (hx : x = Int32.ofInt (i : Int)) (hi : i + 6 ≤ L) (hShp : Shp 260 G) (hS : RSC I S) (hR : RSR I S) (hI : Inv S) (nx : ∀ (I' : Mm) (S' : St), RSC I' S' → RSR I' S' → Inv S' → Fp (some (L, xs)) 215 885 [some (.retAddr 0), some (.ref 0), some (.ref 212), some (.int x)] [] (260, M, G, I') P) : Fp (some (L, xs)) 215 381 [some (.retAddr 0), some (.ref 0), some (.ref 212), some (.int x)] [] (260, M, G, I) P := by
  have hO := inv_sok hI
  have g0 : (G 0).1 = 8 := (hShp.1 (0, 0, 0) trivial (by decide)).2.1
  have g9 : (G 212).1 = 9 := (hShp.1 (3, 0, 0) trivial (by decide)).2.1
  refine fp_aload rfl rfl 382 rfl rfl ?_
  refine fp_arg 1 382 383 384 385 386 387 rfl rfl rfl rfl rfl rfl rfl rfl rfl rfl rfl hL hx hi (by omega) ?_
  refine fp_iv [.int (Int32.ofInt ((xs (i + 1)).toInt))] rfl rfl 390 rfl rfl rfl (by simp) (by omega) g0 rfl rfl rfl (call_fp (c_abort (K := fun v I' => v = (oAbort S ((xs (i + 1)).toInt)).1 ∧ HFr I I' ∧ RSC I' (oAbort S ((xs (i + 1)).toInt)).2) (i32_in _) hS hO (inv_suk hI) (fun I' h1 h2 => ⟨rfl, h1, h2⟩)) hShp rfl) ?_
  rintro _ _ ⟨_, I1, rfl, rfl, rfl, h1, h2⟩
  have hR := rsr_h h1 hR
  refine fp_aload rfl rfl 391 rfl rfl ?_
  refine fp_arg 1 391 392 393 394 395 396 rfl rfl rfl rfl rfl rfl rfl rfl rfl rfl rfl hL hx hi (by omega) ?_
  refine fp_iv [.int (Int32.ofInt ((xs (i + 1)).toInt))] rfl rfl 399 rfl rfl rfl (by simp) (by omega) g9 rfl rfl rfl (call_fp (c_rabort (K := fun v I' => v = (oAbort S ((xs (i + 1)).toInt)).1 ∧ LFr I1 I' ∧ RSR I' (oAbort S ((xs (i + 1)).toInt)).2) (i32_in _) hR hO (inv_suk hI) (fun I' h1 h2 => ⟨rfl, h1, h2⟩)) hShp rfl) ?_
  rintro _ _ ⟨_, I2, rfl, rfl, rfl, h3, h4⟩
  refine fp_eq1 rfl rfl rfl ?_
  exact nx I2 _ (rsc_l h3 h2) h4 (inv_abort hI)
set_option maxRecDepth 100000 in
set_option maxHeartbeats 2000000 in
theorem lw_8 {L M i : Nat} {xs : Nat → Int32} {x : Int32} {G : Gm} {I : Mm} {S : St} {P : Option Value → Sg → Prop} (hL : L ≤ 3072) (hx : x = Int32.ofInt (i : Int)) (hi : i + 6 ≤ L) (hShp : Shp 260 G) (hS : RSC I S) (hR : RSR I S) (hI : Inv S) (nx : ∀ (I' : Mm) (S' : St), RSC I' S' → RSR I' S' → Inv S' → Fp (some (L, xs)) 215 885 [some (.retAddr 0), some (.ref 0), some (.ref 212), some (.int x)] [] (260, M, G, I') P) : Fp (some (L, xs)) 215 404 [some (.retAddr 0), some (.ref 0), some (.ref 212), some (.int x)] [] (260, M, G, I) P := by
  have hO := inv_sok hI
  have g0 : (G 0).1 = 8 := (hShp.1 (0, 0, 0) trivial (by decide)).2.1
  have g9 : (G 212).1 = 9 := (hShp.1 (3, 0, 0) trivial (by decide)).2.1
  obtain ⟨un, hun, eu⟩ : ∃ un : Int, (un = 0 ∨ un = 1) ∧ (((xs (i + 4)) = 0 ∧ un = 0) ∨ (¬ (xs (i + 4)) = 0 ∧ un = 1)) := by
    by_cases c : (xs (i + 4)) = 0
    · exact ⟨0, Or.inl rfl, Or.inl ⟨c, rfl⟩⟩
    · exact ⟨1, Or.inr rfl, Or.inr ⟨c, rfl⟩⟩
  have hbc : ∀ (st : List Value) (J : Mm), Fp (some (L, xs)) 215 433 [some (.retAddr 0), some (.ref 0), some (.ref 212), some (.int x)] (.int (Int32.ofInt un) :: st) (260, M, G, J) P → Fp (some (L, xs)) 215 425 [some (.retAddr 0), some (.ref 0), some (.ref 212), some (.int x)] (.int (Int32.ofInt (xs (i + 4)).toInt) :: st) (260, M, G, J) P := fun st J h => by
    rw [Int32.ofInt_toInt]
    rcases eu with ⟨c, e⟩ | ⟨c, e⟩
    · subst e
      refine fp_eqz1 rfl rfl c ?_
      exact fp_iconst rfl rfl 433 rfl h
    · subst e
      refine fp_eqz0 rfl rfl 428 rfl c ?_
      refine fp_iconst rfl rfl 429 rfl ?_
      exact fp_goto rfl rfl h
  have hbr : ∀ (st : List Value) (J : Mm), Fp (some (L, xs)) 215 465 [some (.retAddr 0), some (.ref 0), some (.ref 212), some (.int x)] (.int (Int32.ofInt un) :: st) (260, M, G, J) P → Fp (some (L, xs)) 215 457 [some (.retAddr 0), some (.ref 0), some (.ref 212), some (.int x)] (.int (Int32.ofInt (xs (i + 4)).toInt) :: st) (260, M, G, J) P := fun st J h => by
    rw [Int32.ofInt_toInt]
    rcases eu with ⟨c, e⟩ | ⟨c, e⟩
    · subst e
      refine fp_eqz1 rfl rfl c ?_
      exact fp_iconst rfl rfl 465 rfl h
    · subst e
      refine fp_eqz0 rfl rfl 460 rfl c ?_
      refine fp_iconst rfl rfl 461 rfl ?_
      exact fp_goto rfl rfl h
  refine fp_aload rfl rfl 405 rfl rfl ?_
  refine fp_arg 1 405 406 407 408 409 410 rfl rfl rfl rfl rfl rfl rfl rfl rfl rfl rfl hL hx hi (by omega) ?_
  refine fp_arg 2 410 411 412 413 414 415 rfl rfl rfl rfl rfl rfl rfl rfl rfl rfl rfl hL hx hi (by omega) ?_
  refine fp_arg 3 415 416 417 418 419 420 rfl rfl rfl rfl rfl rfl rfl rfl rfl rfl rfl hL hx hi (by omega) ?_
  refine fp_arg 4 420 421 422 423 424 425 rfl rfl rfl rfl rfl rfl rfl rfl rfl rfl rfl hL hx hi (by omega) ?_
  refine hbc _ _ ?_
  refine fp_iv [.int (Int32.ofInt ((xs (i + 1)).toInt)), .int (Int32.ofInt ((xs (i + 2)).toInt)), .int (Int32.ofInt ((xs (i + 3)).toInt)), .int (Int32.ofInt (un))] rfl rfl 436 rfl rfl rfl (by simp) (by omega) g0 rfl rfl rfl (call_fp (c_index (K := fun v I' => v = (oIndex S ((xs (i + 1)).toInt) ((xs (i + 2)).toInt) ((xs (i + 3)).toInt) un).1 ∧ HFr I I' ∧ RSC I' (oIndex S ((xs (i + 1)).toInt) ((xs (i + 2)).toInt) ((xs (i + 3)).toInt) un).2) (i32_in _) (i32_in _) (i32_in _) hun hS (fun I' h1 h2 => ⟨rfl, h1, h2⟩)) hShp rfl) ?_
  rintro _ _ ⟨_, I1, rfl, rfl, rfl, h1, h2⟩
  have hR := rsr_h h1 hR
  refine fp_aload rfl rfl 437 rfl rfl ?_
  refine fp_arg 1 437 438 439 440 441 442 rfl rfl rfl rfl rfl rfl rfl rfl rfl rfl rfl hL hx hi (by omega) ?_
  refine fp_arg 2 442 443 444 445 446 447 rfl rfl rfl rfl rfl rfl rfl rfl rfl rfl rfl hL hx hi (by omega) ?_
  refine fp_arg 3 447 448 449 450 451 452 rfl rfl rfl rfl rfl rfl rfl rfl rfl rfl rfl hL hx hi (by omega) ?_
  refine fp_arg 4 452 453 454 455 456 457 rfl rfl rfl rfl rfl rfl rfl rfl rfl rfl rfl hL hx hi (by omega) ?_
  refine hbr _ _ ?_
  refine fp_iv [.int (Int32.ofInt ((xs (i + 1)).toInt)), .int (Int32.ofInt ((xs (i + 2)).toInt)), .int (Int32.ofInt ((xs (i + 3)).toInt)), .int (Int32.ofInt (un))] rfl rfl 468 rfl rfl rfl (by simp) (by omega) g9 rfl rfl rfl (call_fp (c_rindex (K := fun v I' => v = (oIndex S ((xs (i + 1)).toInt) ((xs (i + 2)).toInt) ((xs (i + 3)).toInt) un).1 ∧ LFr I1 I' ∧ RSR I' (oIndex S ((xs (i + 1)).toInt) ((xs (i + 2)).toInt) ((xs (i + 3)).toInt) un).2) (i32_in _) (i32_in _) (i32_in _) hun hR hO (fun I' h1 h2 => ⟨rfl, h1, h2⟩)) hShp rfl) ?_
  rintro _ _ ⟨_, I2, rfl, rfl, rfl, h3, h4⟩
  refine fp_eq1 rfl rfl rfl ?_
  exact nx I2 _ (rsc_l h3 h2) h4 (inv_index hI)
set_option maxRecDepth 100000 in
set_option maxHeartbeats 2000000 in
theorem lw_9 {L M i : Nat} {xs : Nat → Int32} {x : Int32} {G : Gm} {I : Mm} {S : St} {P : Option Value → Sg → Prop} (hL : L ≤ 3072) (hx : x = Int32.ofInt (i : Int)) (hi : i + 6 ≤ L) (hShp : Shp 260 G) (hS : RSC I S) (hR : RSR I S) (hI : Inv S) (nx : ∀ (I' : Mm) (S' : St), RSC I' S' → RSR I' S' → Inv S' → Fp (some (L, xs)) 215 885 [some (.retAddr 0), some (.ref 0), some (.ref 212), some (.int x)] [] (260, M, G, I') P) : Fp (some (L, xs)) 215 473 [some (.retAddr 0), some (.ref 0), some (.ref 212), some (.int x)] [] (260, M, G, I) P := by
  have hO := inv_sok hI
  have g0 : (G 0).1 = 8 := (hShp.1 (0, 0, 0) trivial (by decide)).2.1
  have g9 : (G 212).1 = 9 := (hShp.1 (3, 0, 0) trivial (by decide)).2.1
  refine fp_aload rfl rfl 474 rfl rfl ?_
  refine fp_arg 1 474 475 476 477 478 479 rfl rfl rfl rfl rfl rfl rfl rfl rfl rfl rfl hL hx hi (by omega) ?_
  refine fp_iv [.int (Int32.ofInt ((xs (i + 1)).toInt))] rfl rfl 482 rfl rfl rfl (by simp) (by omega) g0 rfl rfl rfl (call_fp (c_drop (K := fun v I' => v = (oDrop S ((xs (i + 1)).toInt)).1 ∧ HFr I I' ∧ RSC I' (oDrop S ((xs (i + 1)).toInt)).2) (i32_in _) hS hO (fun I' h1 h2 => ⟨rfl, h1, h2⟩)) hShp rfl) ?_
  rintro _ _ ⟨_, I1, rfl, rfl, rfl, h1, h2⟩
  have hR := rsr_h h1 hR
  refine fp_aload rfl rfl 483 rfl rfl ?_
  refine fp_arg 1 483 484 485 486 487 488 rfl rfl rfl rfl rfl rfl rfl rfl rfl rfl rfl hL hx hi (by omega) ?_
  refine fp_iv [.int (Int32.ofInt ((xs (i + 1)).toInt))] rfl rfl 491 rfl rfl rfl (by simp) (by omega) g9 rfl rfl rfl (call_fp (c_rdrop (K := fun v I' => v = (oDrop S ((xs (i + 1)).toInt)).1 ∧ LFr I1 I' ∧ RSR I' (oDrop S ((xs (i + 1)).toInt)).2) (i32_in _) hR hO (fun I' h1 h2 => ⟨rfl, h1, h2⟩)) hShp rfl) ?_
  rintro _ _ ⟨_, I2, rfl, rfl, rfl, h3, h4⟩
  refine fp_eq1 rfl rfl rfl ?_
  exact nx I2 _ (rsc_l h3 h2) h4 (inv_drop hI)
set_option maxRecDepth 100000 in
set_option maxHeartbeats 2000000 in
theorem lw_10 {L M i : Nat} {xs : Nat → Int32} {x : Int32} {G : Gm} {I : Mm} {S : St} {P : Option Value → Sg → Prop} (hL : L ≤ 3072) (hx : x = Int32.ofInt (i : Int)) (hi : i + 6 ≤ L) (hShp : Shp 260 G) (hS : RSC I S) (hR : RSR I S) (hI : Inv S) (nx : ∀ (I' : Mm) (S' : St), RSC I' S' → RSR I' S' → Inv S' → Fp (some (L, xs)) 215 885 [some (.retAddr 0), some (.ref 0), some (.ref 212), some (.int x)] [] (260, M, G, I') P) : Fp (some (L, xs)) 215 496 [some (.retAddr 0), some (.ref 0), some (.ref 212), some (.int x)] [] (260, M, G, I) P := by
  have hO := inv_sok hI
  have g0 : (G 0).1 = 8 := (hShp.1 (0, 0, 0) trivial (by decide)).2.1
  have g9 : (G 212).1 = 9 := (hShp.1 (3, 0, 0) trivial (by decide)).2.1
  refine fp_aload rfl rfl 497 rfl rfl ?_
  refine fp_arg 1 497 498 499 500 501 502 rfl rfl rfl rfl rfl rfl rfl rfl rfl rfl rfl hL hx hi (by omega) ?_
  refine fp_arg 2 502 503 504 505 506 507 rfl rfl rfl rfl rfl rfl rfl rfl rfl rfl rfl hL hx hi (by omega) ?_
  refine fp_iv [.int (Int32.ofInt ((xs (i + 1)).toInt)), .int (Int32.ofInt ((xs (i + 2)).toInt))] rfl rfl 510 rfl rfl rfl (by simp) (by omega) g0 rfl rfl rfl (call_fp (c_step (K := fun v I' => v = (oStep S ((xs (i + 1)).toInt) ((xs (i + 2)).toInt)).1 ∧ HFr I I' ∧ RSC I' (oStep S ((xs (i + 1)).toInt) ((xs (i + 2)).toInt)).2) (i32_in _) (i32_in _) hS hO (inv_ssk hI) (fun I' h1 h2 => ⟨rfl, h1, h2⟩)) hShp rfl) ?_
  rintro _ _ ⟨_, I1, rfl, rfl, rfl, h1, h2⟩
  have hR := rsr_h h1 hR
  refine fp_aload rfl rfl 511 rfl rfl ?_
  refine fp_arg 1 511 512 513 514 515 516 rfl rfl rfl rfl rfl rfl rfl rfl rfl rfl rfl hL hx hi (by omega) ?_
  refine fp_arg 2 516 517 518 519 520 521 rfl rfl rfl rfl rfl rfl rfl rfl rfl rfl rfl hL hx hi (by omega) ?_
  refine fp_iv [.int (Int32.ofInt ((xs (i + 1)).toInt)), .int (Int32.ofInt ((xs (i + 2)).toInt))] rfl rfl 524 rfl rfl rfl (by simp) (by omega) g9 rfl rfl rfl (call_fp (c_rstep (K := fun v I' => v = (oStep S ((xs (i + 1)).toInt) ((xs (i + 2)).toInt)).1 ∧ LFr I1 I' ∧ RSR I' (oStep S ((xs (i + 1)).toInt) ((xs (i + 2)).toInt)).2) (i32_in _) (i32_in _) hR hO (inv_ssk hI) (inv_ss1 hI) (fun I' h1 h2 => ⟨rfl, h1, h2⟩)) hShp rfl) ?_
  rintro _ _ ⟨_, I2, rfl, rfl, rfl, h3, h4⟩
  refine fp_eq1 rfl rfl rfl ?_
  exact nx I2 _ (rsc_l h3 h2) h4 (inv_step hI)
set_option maxRecDepth 100000 in
set_option maxHeartbeats 2000000 in
theorem lw_11 {L M i : Nat} {xs : Nat → Int32} {x : Int32} {G : Gm} {I : Mm} {S : St} {P : Option Value → Sg → Prop} (hL : L ≤ 3072) (hx : x = Int32.ofInt (i : Int)) (hi : i + 6 ≤ L) (hShp : Shp 260 G) (hS : RSC I S) (hR : RSR I S) (hI : Inv S) (nx : ∀ (I' : Mm) (S' : St), RSC I' S' → RSR I' S' → Inv S' → Fp (some (L, xs)) 215 885 [some (.retAddr 0), some (.ref 0), some (.ref 212), some (.int x)] [] (260, M, G, I') P) : Fp (some (L, xs)) 215 529 [some (.retAddr 0), some (.ref 0), some (.ref 212), some (.int x)] [] (260, M, G, I) P := by
  have hO := inv_sok hI
  have g0 : (G 0).1 = 8 := (hShp.1 (0, 0, 0) trivial (by decide)).2.1
  have g9 : (G 212).1 = 9 := (hShp.1 (3, 0, 0) trivial (by decide)).2.1
  refine fp_aload rfl rfl 530 rfl rfl ?_
  refine fp_arg 1 530 531 532 533 534 535 rfl rfl rfl rfl rfl rfl rfl rfl rfl rfl rfl hL hx hi (by omega) ?_
  refine fp_arg 2 535 536 537 538 539 540 rfl rfl rfl rfl rfl rfl rfl rfl rfl rfl rfl hL hx hi (by omega) ?_
  refine fp_iv [.int (Int32.ofInt ((xs (i + 1)).toInt)), .int (Int32.ofInt ((xs (i + 2)).toInt))] rfl rfl 543 rfl rfl rfl (by simp) (by omega) g0 rfl rfl rfl (call_fp (c_info (K := fun v I' => v = oInfo S ((xs (i + 1)).toInt) ((xs (i + 2)).toInt) ∧ HFr I I' ∧ RSC I' S) (i32_in _) (i32_in _) hS hO ⟨rfl, fun _ _ => rfl, hS⟩) hShp rfl) ?_
  rintro _ _ ⟨_, I1, rfl, rfl, rfl, h1, h2⟩
  have hR := rsr_h h1 hR
  refine fp_aload rfl rfl 544 rfl rfl ?_
  refine fp_arg 1 544 545 546 547 548 549 rfl rfl rfl rfl rfl rfl rfl rfl rfl rfl rfl hL hx hi (by omega) ?_
  refine fp_arg 2 549 550 551 552 553 554 rfl rfl rfl rfl rfl rfl rfl rfl rfl rfl rfl hL hx hi (by omega) ?_
  refine fp_iv [.int (Int32.ofInt ((xs (i + 1)).toInt)), .int (Int32.ofInt ((xs (i + 2)).toInt))] rfl rfl 557 rfl rfl rfl (by simp) (by omega) g9 rfl rfl rfl (call_fp (c_rinfo (K := fun v I' => v = oInfo S ((xs (i + 1)).toInt) ((xs (i + 2)).toInt) ∧ LFr I1 I' ∧ RSR I' S) (i32_in _) (i32_in _) hR hO (inv_slk hI) (fun I' h1 h2 => ⟨rfl, h1, h2⟩)) hShp rfl) ?_
  rintro _ _ ⟨_, I2, rfl, rfl, rfl, h3, h4⟩
  refine fp_eq1 rfl rfl rfl ?_
  exact nx I2 _ (rsc_l h3 h2) h4 (hI)
set_option maxRecDepth 100000 in
set_option maxHeartbeats 2000000 in
theorem lw_12 {L M i : Nat} {xs : Nat → Int32} {x : Int32} {G : Gm} {I : Mm} {S : St} {P : Option Value → Sg → Prop} (hL : L ≤ 3072) (hx : x = Int32.ofInt (i : Int)) (hi : i + 6 ≤ L) (hShp : Shp 260 G) (hS : RSC I S) (hR : RSR I S) (hI : Inv S) (nx : ∀ (I' : Mm) (S' : St), RSC I' S' → RSR I' S' → Inv S' → Fp (some (L, xs)) 215 885 [some (.retAddr 0), some (.ref 0), some (.ref 212), some (.int x)] [] (260, M, G, I') P) : Fp (some (L, xs)) 215 562 [some (.retAddr 0), some (.ref 0), some (.ref 212), some (.int x)] [] (260, M, G, I) P := by
  have hO := inv_sok hI
  have g0 : (G 0).1 = 8 := (hShp.1 (0, 0, 0) trivial (by decide)).2.1
  have g9 : (G 212).1 = 9 := (hShp.1 (3, 0, 0) trivial (by decide)).2.1
  refine fp_aload rfl rfl 563 rfl rfl ?_
  refine fp_arg 1 563 564 565 566 567 568 rfl rfl rfl rfl rfl rfl rfl rfl rfl rfl rfl hL hx hi (by omega) ?_
  refine fp_arg 2 568 569 570 571 572 573 rfl rfl rfl rfl rfl rfl rfl rfl rfl rfl rfl hL hx hi (by omega) ?_
  refine fp_arg 3 573 574 575 576 577 578 rfl rfl rfl rfl rfl rfl rfl rfl rfl rfl rfl hL hx hi (by omega) ?_
  refine fp_iv [.int (Int32.ofInt ((xs (i + 1)).toInt)), .int (Int32.ofInt ((xs (i + 2)).toInt)), .int (Int32.ofInt ((xs (i + 3)).toInt))] rfl rfl 581 rfl rfl rfl (by simp) (by omega) g0 rfl rfl rfl (call_fp (c_entry (K := fun v I' => v = oEnt S ((xs (i + 1)).toInt) ((xs (i + 2)).toInt) ((xs (i + 3)).toInt) ∧ HFr I I' ∧ RSC I' S) (i32_in _) (i32_in _) (i32_in _) hS hO (fun I' h1 h2 => ⟨rfl, h1, h2⟩)) hShp rfl) ?_
  rintro _ _ ⟨_, I1, rfl, rfl, rfl, h1, h2⟩
  have hR := rsr_h h1 hR
  refine fp_aload rfl rfl 582 rfl rfl ?_
  refine fp_arg 1 582 583 584 585 586 587 rfl rfl rfl rfl rfl rfl rfl rfl rfl rfl rfl hL hx hi (by omega) ?_
  refine fp_arg 2 587 588 589 590 591 592 rfl rfl rfl rfl rfl rfl rfl rfl rfl rfl rfl hL hx hi (by omega) ?_
  refine fp_arg 3 592 593 594 595 596 597 rfl rfl rfl rfl rfl rfl rfl rfl rfl rfl rfl hL hx hi (by omega) ?_
  refine fp_iv [.int (Int32.ofInt ((xs (i + 1)).toInt)), .int (Int32.ofInt ((xs (i + 2)).toInt)), .int (Int32.ofInt ((xs (i + 3)).toInt))] rfl rfl 600 rfl rfl rfl (by simp) (by omega) g9 rfl rfl rfl (call_fp (c_rentry (K := fun v I' => v = oEnt S ((xs (i + 1)).toInt) ((xs (i + 2)).toInt) ((xs (i + 3)).toInt) ∧ LFr I1 I' ∧ RSR I' S) (i32_in _) (i32_in _) (i32_in _) hR hO (fun I' h1 h2 => ⟨rfl, h1, h2⟩)) hShp rfl) ?_
  rintro _ _ ⟨_, I2, rfl, rfl, rfl, h3, h4⟩
  refine fp_eq1 rfl rfl rfl ?_
  exact nx I2 _ (rsc_l h3 h2) h4 (hI)
set_option maxRecDepth 100000 in
set_option maxHeartbeats 2000000 in
theorem lw_13 {L M i : Nat} {xs : Nat → Int32} {x : Int32} {G : Gm} {I : Mm} {S : St} {P : Option Value → Sg → Prop} (hL : L ≤ 3072) (hx : x = Int32.ofInt (i : Int)) (hi : i + 6 ≤ L) (hShp : Shp 260 G) (hS : RSC I S) (hR : RSR I S) (hI : Inv S) (nx : ∀ (I' : Mm) (S' : St), RSC I' S' → RSR I' S' → Inv S' → Fp (some (L, xs)) 215 885 [some (.retAddr 0), some (.ref 0), some (.ref 212), some (.int x)] [] (260, M, G, I') P) : Fp (some (L, xs)) 215 605 [some (.retAddr 0), some (.ref 0), some (.ref 212), some (.int x)] [] (260, M, G, I) P := by
  have hO := inv_sok hI
  have g0 : (G 0).1 = 8 := (hShp.1 (0, 0, 0) trivial (by decide)).2.1
  have g9 : (G 212).1 = 9 := (hShp.1 (3, 0, 0) trivial (by decide)).2.1
  refine fp_aload rfl rfl 606 rfl rfl ?_
  refine fp_arg 1 606 607 608 609 610 611 rfl rfl rfl rfl rfl rfl rfl rfl rfl rfl rfl hL hx hi (by omega) ?_
  refine fp_arg 2 611 612 613 614 615 616 rfl rfl rfl rfl rfl rfl rfl rfl rfl rfl rfl hL hx hi (by omega) ?_
  refine fp_arg 3 616 617 618 619 620 621 rfl rfl rfl rfl rfl rfl rfl rfl rfl rfl rfl hL hx hi (by omega) ?_
  refine fp_iv [.int (Int32.ofInt ((xs (i + 1)).toInt)), .int (Int32.ofInt ((xs (i + 2)).toInt)), .int (Int32.ofInt ((xs (i + 3)).toInt))] rfl rfl 624 rfl rfl rfl (by simp) (by omega) g0 rfl rfl rfl (call_fp (c_where (K := fun v I' => v = (oWhere S ((xs (i + 1)).toInt) ((xs (i + 2)).toInt) ((xs (i + 3)).toInt)).1 ∧ HFr I I' ∧ RSC I' (oWhere S ((xs (i + 1)).toInt) ((xs (i + 2)).toInt) ((xs (i + 3)).toInt)).2) (i32_in _) (i32_in _) (i32_in _) hS (fun I' h1 h2 => ⟨rfl, h1, h2⟩)) hShp rfl) ?_
  rintro _ _ ⟨_, I1, rfl, rfl, rfl, h1, h2⟩
  have hR := rsr_h h1 hR
  refine fp_aload rfl rfl 625 rfl rfl ?_
  refine fp_arg 1 625 626 627 628 629 630 rfl rfl rfl rfl rfl rfl rfl rfl rfl rfl rfl hL hx hi (by omega) ?_
  refine fp_arg 2 630 631 632 633 634 635 rfl rfl rfl rfl rfl rfl rfl rfl rfl rfl rfl hL hx hi (by omega) ?_
  refine fp_arg 3 635 636 637 638 639 640 rfl rfl rfl rfl rfl rfl rfl rfl rfl rfl rfl hL hx hi (by omega) ?_
  refine fp_iv [.int (Int32.ofInt ((xs (i + 1)).toInt)), .int (Int32.ofInt ((xs (i + 2)).toInt)), .int (Int32.ofInt ((xs (i + 3)).toInt))] rfl rfl 643 rfl rfl rfl (by simp) (by omega) g9 rfl rfl rfl (call_fp (c_rwhere (K := fun v I' => v = (oWhere S ((xs (i + 1)).toInt) ((xs (i + 2)).toInt) ((xs (i + 3)).toInt)).1 ∧ LFr I1 I' ∧ RSR I' (oWhere S ((xs (i + 1)).toInt) ((xs (i + 2)).toInt) ((xs (i + 3)).toInt)).2) (i32_in _) (i32_in _) (i32_in _) hR (fun I' h1 h2 => ⟨rfl, h1, h2⟩)) hShp rfl) ?_
  rintro _ _ ⟨_, I2, rfl, rfl, rfl, h3, h4⟩
  refine fp_eq1 rfl rfl rfl ?_
  exact nx I2 _ (rsc_l h3 h2) h4 (inv_where hI)
set_option maxRecDepth 100000 in
set_option maxHeartbeats 2000000 in
theorem lw_14 {L M i : Nat} {xs : Nat → Int32} {x : Int32} {G : Gm} {I : Mm} {S : St} {P : Option Value → Sg → Prop} (hL : L ≤ 3072) (hx : x = Int32.ofInt (i : Int)) (hi : i + 6 ≤ L) (hShp : Shp 260 G) (hS : RSC I S) (hR : RSR I S) (hI : Inv S) (nx : ∀ (I' : Mm) (S' : St), RSC I' S' → RSR I' S' → Inv S' → Fp (some (L, xs)) 215 885 [some (.retAddr 0), some (.ref 0), some (.ref 212), some (.int x)] [] (260, M, G, I') P) : Fp (some (L, xs)) 215 648 [some (.retAddr 0), some (.ref 0), some (.ref 212), some (.int x)] [] (260, M, G, I) P := by
  have hO := inv_sok hI
  have g0 : (G 0).1 = 8 := (hShp.1 (0, 0, 0) trivial (by decide)).2.1
  have g9 : (G 212).1 = 9 := (hShp.1 (3, 0, 0) trivial (by decide)).2.1
  refine fp_aload rfl rfl 649 rfl rfl ?_
  refine fp_arg 1 649 650 651 652 653 654 rfl rfl rfl rfl rfl rfl rfl rfl rfl rfl rfl hL hx hi (by omega) ?_
  refine fp_arg 2 654 655 656 657 658 659 rfl rfl rfl rfl rfl rfl rfl rfl rfl rfl rfl hL hx hi (by omega) ?_
  refine fp_iv [.int (Int32.ofInt ((xs (i + 1)).toInt)), .int (Int32.ofInt ((xs (i + 2)).toInt))] rfl rfl 662 rfl rfl rfl (by simp) (by omega) g0 rfl rfl rfl (call_fp (c_ask (K := fun v I' => v = (oAsk S ((xs (i + 1)).toInt) ((xs (i + 2)).toInt)).1 ∧ HFr I I' ∧ RSC I' (oAsk S ((xs (i + 1)).toInt) ((xs (i + 2)).toInt)).2) (i32_in _) (i32_in _) hS hO (inv_sqk hI) (fun I' h1 h2 => ⟨rfl, h1, h2⟩)) hShp rfl) ?_
  rintro _ _ ⟨_, I1, rfl, rfl, rfl, h1, h2⟩
  have hR := rsr_h h1 hR
  refine fp_aload rfl rfl 663 rfl rfl ?_
  refine fp_arg 1 663 664 665 666 667 668 rfl rfl rfl rfl rfl rfl rfl rfl rfl rfl rfl hL hx hi (by omega) ?_
  refine fp_arg 2 668 669 670 671 672 673 rfl rfl rfl rfl rfl rfl rfl rfl rfl rfl rfl hL hx hi (by omega) ?_
  refine fp_iv [.int (Int32.ofInt ((xs (i + 1)).toInt)), .int (Int32.ofInt ((xs (i + 2)).toInt))] rfl rfl 676 rfl rfl rfl (by simp) (by omega) g9 rfl rfl rfl (call_fp (c_rask (K := fun v I' => v = (oAsk S ((xs (i + 1)).toInt) ((xs (i + 2)).toInt)).1 ∧ LFr I1 I' ∧ RSR I' (oAsk S ((xs (i + 1)).toInt) ((xs (i + 2)).toInt)).2) (i32_in _) (i32_in _) hR hO (inv_sqk hI) (fun I' h1 h2 => ⟨rfl, h1, h2⟩)) hShp rfl) ?_
  rintro _ _ ⟨_, I2, rfl, rfl, rfl, h3, h4⟩
  refine fp_eq1 rfl rfl rfl ?_
  exact nx I2 _ (rsc_l h3 h2) h4 (inv_ask hI)
set_option maxRecDepth 100000 in
set_option maxHeartbeats 2000000 in
theorem lw_15 {L M i : Nat} {xs : Nat → Int32} {x : Int32} {G : Gm} {I : Mm} {S : St} {P : Option Value → Sg → Prop} (hL : L ≤ 3072) (hx : x = Int32.ofInt (i : Int)) (hi : i + 6 ≤ L) (hShp : Shp 260 G) (hS : RSC I S) (hR : RSR I S) (hI : Inv S) (nx : ∀ (I' : Mm) (S' : St), RSC I' S' → RSR I' S' → Inv S' → Fp (some (L, xs)) 215 885 [some (.retAddr 0), some (.ref 0), some (.ref 212), some (.int x)] [] (260, M, G, I') P) : Fp (some (L, xs)) 215 681 [some (.retAddr 0), some (.ref 0), some (.ref 212), some (.int x)] [] (260, M, G, I) P := by
  have hO := inv_sok hI
  have g0 : (G 0).1 = 8 := (hShp.1 (0, 0, 0) trivial (by decide)).2.1
  have g9 : (G 212).1 = 9 := (hShp.1 (3, 0, 0) trivial (by decide)).2.1
  refine fp_aload rfl rfl 682 rfl rfl ?_
  refine fp_arg 1 682 683 684 685 686 687 rfl rfl rfl rfl rfl rfl rfl rfl rfl rfl rfl hL hx hi (by omega) ?_
  refine fp_iv [.int (Int32.ofInt ((xs (i + 1)).toInt))] rfl rfl 690 rfl rfl rfl (by simp) (by omega) g0 rfl rfl rfl (call_fp (c_answer (K := fun v I' => v = oAns S ((xs (i + 1)).toInt) ∧ HFr I I' ∧ RSC I' S) (i32_in _) hS ⟨rfl, fun _ _ => rfl, hS⟩) hShp rfl) ?_
  rintro _ _ ⟨_, I1, rfl, rfl, rfl, h1, h2⟩
  have hR := rsr_h h1 hR
  refine fp_aload rfl rfl 691 rfl rfl ?_
  refine fp_arg 1 691 692 693 694 695 696 rfl rfl rfl rfl rfl rfl rfl rfl rfl rfl rfl hL hx hi (by omega) ?_
  refine fp_iv [.int (Int32.ofInt ((xs (i + 1)).toInt))] rfl rfl 699 rfl rfl rfl (by simp) (by omega) g9 rfl rfl rfl (call_fp (c_ranswer (K := fun v I' => v = oAns S ((xs (i + 1)).toInt) ∧ LFr I1 I' ∧ RSR I' S) (i32_in _) hR ⟨rfl, fun _ _ => rfl, hR⟩) hShp rfl) ?_
  rintro _ _ ⟨_, I2, rfl, rfl, rfl, h3, h4⟩
  refine fp_eq1 rfl rfl rfl ?_
  exact nx I2 _ (rsc_l h3 h2) h4 (hI)
set_option maxRecDepth 100000 in
set_option maxHeartbeats 2000000 in
theorem lw_16 {L M i : Nat} {xs : Nat → Int32} {x : Int32} {G : Gm} {I : Mm} {S : St} {P : Option Value → Sg → Prop} (hL : L ≤ 3072) (hx : x = Int32.ofInt (i : Int)) (hi : i + 6 ≤ L) (hShp : Shp 260 G) (hS : RSC I S) (hR : RSR I S) (hI : Inv S) (nx : ∀ (I' : Mm) (S' : St), RSC I' S' → RSR I' S' → Inv S' → Fp (some (L, xs)) 215 885 [some (.retAddr 0), some (.ref 0), some (.ref 212), some (.int x)] [] (260, M, G, I') P) : Fp (some (L, xs)) 215 704 [some (.retAddr 0), some (.ref 0), some (.ref 212), some (.int x)] [] (260, M, G, I) P := by
  have hO := inv_sok hI
  have g0 : (G 0).1 = 8 := (hShp.1 (0, 0, 0) trivial (by decide)).2.1
  have g9 : (G 212).1 = 9 := (hShp.1 (3, 0, 0) trivial (by decide)).2.1
  refine fp_aload rfl rfl 705 rfl rfl ?_
  refine fp_arg 1 705 706 707 708 709 710 rfl rfl rfl rfl rfl rfl rfl rfl rfl rfl rfl hL hx hi (by omega) ?_
  refine fp_iv [.int (Int32.ofInt ((xs (i + 1)).toInt))] rfl rfl 713 rfl rfl rfl (by simp) (by omega) g0 rfl rfl rfl (call_fp (c_asked (K := fun v I' => v = oAsked S ((xs (i + 1)).toInt) ∧ HFr I I' ∧ RSC I' S) (i32_in _) hS ⟨rfl, fun _ _ => rfl, hS⟩) hShp rfl) ?_
  rintro _ _ ⟨_, I1, rfl, rfl, rfl, h1, h2⟩
  have hR := rsr_h h1 hR
  refine fp_aload rfl rfl 714 rfl rfl ?_
  refine fp_arg 1 714 715 716 717 718 719 rfl rfl rfl rfl rfl rfl rfl rfl rfl rfl rfl hL hx hi (by omega) ?_
  refine fp_iv [.int (Int32.ofInt ((xs (i + 1)).toInt))] rfl rfl 722 rfl rfl rfl (by simp) (by omega) g9 rfl rfl rfl (call_fp (c_rasked (K := fun v I' => v = oAsked S ((xs (i + 1)).toInt) ∧ LFr I1 I' ∧ RSR I' S) (i32_in _) hR ⟨rfl, fun _ _ => rfl, hR⟩) hShp rfl) ?_
  rintro _ _ ⟨_, I2, rfl, rfl, rfl, h3, h4⟩
  refine fp_eq1 rfl rfl rfl ?_
  exact nx I2 _ (rsc_l h3 h2) h4 (hI)
set_option maxRecDepth 100000 in
set_option maxHeartbeats 2000000 in
theorem lw_17 {L M i : Nat} {xs : Nat → Int32} {x : Int32} {G : Gm} {I : Mm} {S : St} {P : Option Value → Sg → Prop} (hL : L ≤ 3072) (hx : x = Int32.ofInt (i : Int)) (hi : i + 6 ≤ L) (hShp : Shp 260 G) (hS : RSC I S) (hR : RSR I S) (hI : Inv S) (nx : ∀ (I' : Mm) (S' : St), RSC I' S' → RSR I' S' → Inv S' → Fp (some (L, xs)) 215 885 [some (.retAddr 0), some (.ref 0), some (.ref 212), some (.int x)] [] (260, M, G, I') P) : Fp (some (L, xs)) 215 727 [some (.retAddr 0), some (.ref 0), some (.ref 212), some (.int x)] [] (260, M, G, I) P := by
  have hO := inv_sok hI
  have g0 : (G 0).1 = 8 := (hShp.1 (0, 0, 0) trivial (by decide)).2.1
  have g9 : (G 212).1 = 9 := (hShp.1 (3, 0, 0) trivial (by decide)).2.1
  refine fp_aload rfl rfl 728 rfl rfl ?_
  refine fp_arg 1 728 729 730 731 732 733 rfl rfl rfl rfl rfl rfl rfl rfl rfl rfl rfl hL hx hi (by omega) ?_
  refine fp_iv [.int (Int32.ofInt ((xs (i + 1)).toInt))] rfl rfl 736 rfl rfl rfl (by simp) (by omega) g0 rfl rfl rfl (call_fp (c_cost (K := fun v I' => v = oCost S ((xs (i + 1)).toInt) ∧ HFr I I' ∧ RSC I' S) (i32_in _) hS hO (fun I' h1 h2 => ⟨rfl, h1, h2⟩)) hShp rfl) ?_
  rintro _ _ ⟨_, I1, rfl, rfl, rfl, h1, h2⟩
  have hR := rsr_h h1 hR
  refine fp_aload rfl rfl 737 rfl rfl ?_
  refine fp_arg 1 737 738 739 740 741 742 rfl rfl rfl rfl rfl rfl rfl rfl rfl rfl rfl hL hx hi (by omega) ?_
  refine fp_iv [.int (Int32.ofInt ((xs (i + 1)).toInt))] rfl rfl 745 rfl rfl rfl (by simp) (by omega) g9 rfl rfl rfl (call_fp (c_rcost (K := fun v I' => v = oCost S ((xs (i + 1)).toInt) ∧ LFr I1 I' ∧ RSR I' S) (i32_in _) hR hO (fun I' h1 h2 => ⟨rfl, h1, h2⟩)) hShp rfl) ?_
  rintro _ _ ⟨_, I2, rfl, rfl, rfl, h3, h4⟩
  refine fp_eq1 rfl rfl rfl ?_
  exact nx I2 _ (rsc_l h3 h2) h4 (hI)
set_option maxRecDepth 100000 in
set_option maxHeartbeats 2000000 in
theorem lw_18 {L M i : Nat} {xs : Nat → Int32} {x : Int32} {G : Gm} {I : Mm} {S : St} {P : Option Value → Sg → Prop} (hL : L ≤ 3072) (hx : x = Int32.ofInt (i : Int)) (hi : i + 6 ≤ L) (hShp : Shp 260 G) (hS : RSC I S) (hR : RSR I S) (hI : Inv S) (nx : ∀ (I' : Mm) (S' : St), RSC I' S' → RSR I' S' → Inv S' → Fp (some (L, xs)) 215 885 [some (.retAddr 0), some (.ref 0), some (.ref 212), some (.int x)] [] (260, M, G, I') P) : Fp (some (L, xs)) 215 750 [some (.retAddr 0), some (.ref 0), some (.ref 212), some (.int x)] [] (260, M, G, I) P := by
  have hO := inv_sok hI
  have g0 : (G 0).1 = 8 := (hShp.1 (0, 0, 0) trivial (by decide)).2.1
  have g9 : (G 212).1 = 9 := (hShp.1 (3, 0, 0) trivial (by decide)).2.1
  refine fp_aload rfl rfl 751 rfl rfl ?_
  refine fp_arg 1 751 752 753 754 755 756 rfl rfl rfl rfl rfl rfl rfl rfl rfl rfl rfl hL hx hi (by omega) ?_
  refine fp_arg 2 756 757 758 759 760 761 rfl rfl rfl rfl rfl rfl rfl rfl rfl rfl rfl hL hx hi (by omega) ?_
  refine fp_iv [.int (Int32.ofInt ((xs (i + 1)).toInt)), .int (Int32.ofInt ((xs (i + 2)).toInt))] rfl rfl 764 rfl rfl rfl (by simp) (by omega) g0 rfl rfl rfl (call_fp (c_sees (K := fun v I' => v = oSees S ((xs (i + 1)).toInt) ((xs (i + 2)).toInt) ∧ HFr I I' ∧ RSC I' S) (i32_in _) (i32_in _) hS hO ⟨rfl, fun _ _ => rfl, hS⟩) hShp rfl) ?_
  rintro _ _ ⟨_, I1, rfl, rfl, rfl, h1, h2⟩
  have hR := rsr_h h1 hR
  refine fp_aload rfl rfl 765 rfl rfl ?_
  refine fp_arg 1 765 766 767 768 769 770 rfl rfl rfl rfl rfl rfl rfl rfl rfl rfl rfl hL hx hi (by omega) ?_
  refine fp_arg 2 770 771 772 773 774 775 rfl rfl rfl rfl rfl rfl rfl rfl rfl rfl rfl hL hx hi (by omega) ?_
  refine fp_iv [.int (Int32.ofInt ((xs (i + 1)).toInt)), .int (Int32.ofInt ((xs (i + 2)).toInt))] rfl rfl 778 rfl rfl rfl (by simp) (by omega) g9 rfl rfl rfl (call_fp (c_rsees (K := fun v I' => v = oSees S ((xs (i + 1)).toInt) ((xs (i + 2)).toInt) ∧ LFr I1 I' ∧ RSR I' S) (i32_in _) (i32_in _) hR hO ⟨rfl, fun _ _ => rfl, hR⟩) hShp rfl) ?_
  rintro _ _ ⟨_, I2, rfl, rfl, rfl, h3, h4⟩
  refine fp_eq1 rfl rfl rfl ?_
  exact nx I2 _ (rsc_l h3 h2) h4 (hI)
set_option maxRecDepth 100000 in
set_option maxHeartbeats 2000000 in
theorem lw_19 {L M i : Nat} {xs : Nat → Int32} {x : Int32} {G : Gm} {I : Mm} {S : St} {P : Option Value → Sg → Prop} (hL : L ≤ 3072) (hx : x = Int32.ofInt (i : Int)) (hi : i + 6 ≤ L) (hShp : Shp 260 G) (hS : RSC I S) (hR : RSR I S) (hI : Inv S) (nx : ∀ (I' : Mm) (S' : St), RSC I' S' → RSR I' S' → Inv S' → Fp (some (L, xs)) 215 885 [some (.retAddr 0), some (.ref 0), some (.ref 212), some (.int x)] [] (260, M, G, I') P) : Fp (some (L, xs)) 215 783 [some (.retAddr 0), some (.ref 0), some (.ref 212), some (.int x)] [] (260, M, G, I) P := by
  have hO := inv_sok hI
  have g0 : (G 0).1 = 8 := (hShp.1 (0, 0, 0) trivial (by decide)).2.1
  have g9 : (G 212).1 = 9 := (hShp.1 (3, 0, 0) trivial (by decide)).2.1
  refine fp_aload rfl rfl 784 rfl rfl ?_
  refine fp_arg 1 784 785 786 787 788 789 rfl rfl rfl rfl rfl rfl rfl rfl rfl rfl rfl hL hx hi (by omega) ?_
  refine fp_arg 2 789 790 791 792 793 794 rfl rfl rfl rfl rfl rfl rfl rfl rfl rfl rfl hL hx hi (by omega) ?_
  refine fp_arg 3 794 795 796 797 798 799 rfl rfl rfl rfl rfl rfl rfl rfl rfl rfl rfl hL hx hi (by omega) ?_
  refine fp_iv [.int (Int32.ofInt ((xs (i + 1)).toInt)), .int (Int32.ofInt ((xs (i + 2)).toInt)), .int (Int32.ofInt ((xs (i + 3)).toInt))] rfl rfl 802 rfl rfl rfl (by simp) (by omega) g0 rfl rfl rfl (call_fp (c_field (K := fun v I' => v = oField S ((xs (i + 1)).toInt) ((xs (i + 2)).toInt) ((xs (i + 3)).toInt) ∧ HFr I I' ∧ RSC I' S) (i32_in _) (i32_in _) (i32_in _) hS hO ⟨rfl, fun _ _ => rfl, hS⟩) hShp rfl) ?_
  rintro _ _ ⟨_, I1, rfl, rfl, rfl, h1, h2⟩
  have hR := rsr_h h1 hR
  refine fp_aload rfl rfl 803 rfl rfl ?_
  refine fp_arg 1 803 804 805 806 807 808 rfl rfl rfl rfl rfl rfl rfl rfl rfl rfl rfl hL hx hi (by omega) ?_
  refine fp_arg 2 808 809 810 811 812 813 rfl rfl rfl rfl rfl rfl rfl rfl rfl rfl rfl hL hx hi (by omega) ?_
  refine fp_arg 3 813 814 815 816 817 818 rfl rfl rfl rfl rfl rfl rfl rfl rfl rfl rfl hL hx hi (by omega) ?_
  refine fp_iv [.int (Int32.ofInt ((xs (i + 1)).toInt)), .int (Int32.ofInt ((xs (i + 2)).toInt)), .int (Int32.ofInt ((xs (i + 3)).toInt))] rfl rfl 821 rfl rfl rfl (by simp) (by omega) g9 rfl rfl rfl (call_fp (c_rfield (K := fun v I' => v = oField S ((xs (i + 1)).toInt) ((xs (i + 2)).toInt) ((xs (i + 3)).toInt) ∧ LFr I1 I' ∧ RSR I' S) (i32_in _) (i32_in _) (i32_in _) hR hO ⟨rfl, fun _ _ => rfl, hR⟩) hShp rfl) ?_
  rintro _ _ ⟨_, I2, rfl, rfl, rfl, h3, h4⟩
  refine fp_eq1 rfl rfl rfl ?_
  exact nx I2 _ (rsc_l h3 h2) h4 (hI)
set_option maxRecDepth 100000 in
set_option maxHeartbeats 2000000 in
theorem lw_20 {L M i : Nat} {xs : Nat → Int32} {x : Int32} {G : Gm} {I : Mm} {S : St} {P : Option Value → Sg → Prop} (hL : L ≤ 3072) (hx : x = Int32.ofInt (i : Int)) (hi : i + 6 ≤ L) (hShp : Shp 260 G) (hS : RSC I S) (hR : RSR I S) (hI : Inv S) (nx : ∀ (I' : Mm) (S' : St), RSC I' S' → RSR I' S' → Inv S' → Fp (some (L, xs)) 215 885 [some (.retAddr 0), some (.ref 0), some (.ref 212), some (.int x)] [] (260, M, G, I') P) : Fp (some (L, xs)) 215 826 [some (.retAddr 0), some (.ref 0), some (.ref 212), some (.int x)] [] (260, M, G, I) P := by
  have hO := inv_sok hI
  have g0 : (G 0).1 = 8 := (hShp.1 (0, 0, 0) trivial (by decide)).2.1
  have g9 : (G 212).1 = 9 := (hShp.1 (3, 0, 0) trivial (by decide)).2.1
  refine fp_aload rfl rfl 827 rfl rfl ?_
  refine fp_arg 1 827 828 829 830 831 832 rfl rfl rfl rfl rfl rfl rfl rfl rfl rfl rfl hL hx hi (by omega) ?_
  refine fp_iv [.int (Int32.ofInt ((xs (i + 1)).toInt))] rfl rfl 835 rfl rfl rfl (by simp) (by omega) g0 rfl rfl rfl (call_fp (c_writer (K := fun v I' => v = oWriter S ((xs (i + 1)).toInt) ∧ HFr I I' ∧ RSC I' S) (i32_in _) hS ⟨rfl, fun _ _ => rfl, hS⟩) hShp rfl) ?_
  rintro _ _ ⟨_, I1, rfl, rfl, rfl, h1, h2⟩
  have hR := rsr_h h1 hR
  refine fp_aload rfl rfl 836 rfl rfl ?_
  refine fp_arg 1 836 837 838 839 840 841 rfl rfl rfl rfl rfl rfl rfl rfl rfl rfl rfl hL hx hi (by omega) ?_
  refine fp_iv [.int (Int32.ofInt ((xs (i + 1)).toInt))] rfl rfl 844 rfl rfl rfl (by simp) (by omega) g9 rfl rfl rfl (call_fp (c_rwriter (K := fun v I' => v = oWriter S ((xs (i + 1)).toInt) ∧ LFr I1 I' ∧ RSR I' S) (i32_in _) hR ⟨rfl, fun _ _ => rfl, hR⟩) hShp rfl) ?_
  rintro _ _ ⟨_, I2, rfl, rfl, rfl, h3, h4⟩
  refine fp_eq1 rfl rfl rfl ?_
  exact nx I2 _ (rsc_l h3 h2) h4 (hI)
set_option maxRecDepth 100000 in
set_option maxHeartbeats 2000000 in
theorem lw_21 {L M i : Nat} {xs : Nat → Int32} {x : Int32} {G : Gm} {I : Mm} {S : St} {P : Option Value → Sg → Prop} (hL : L ≤ 3072) (hx : x = Int32.ofInt (i : Int)) (hi : i + 6 ≤ L) (hShp : Shp 260 G) (hS : RSC I S) (hR : RSR I S) (hI : Inv S) (nx : ∀ (I' : Mm) (S' : St), RSC I' S' → RSR I' S' → Inv S' → Fp (some (L, xs)) 215 885 [some (.retAddr 0), some (.ref 0), some (.ref 212), some (.int x)] [] (260, M, G, I') P) : Fp (some (L, xs)) 215 849 [some (.retAddr 0), some (.ref 0), some (.ref 212), some (.int x)] [] (260, M, G, I) P := by
  have hO := inv_sok hI
  have g0 : (G 0).1 = 8 := (hShp.1 (0, 0, 0) trivial (by decide)).2.1
  have g9 : (G 212).1 = 9 := (hShp.1 (3, 0, 0) trivial (by decide)).2.1
  refine fp_aload rfl rfl 850 rfl rfl ?_
  refine fp_arg 1 850 851 852 853 854 855 rfl rfl rfl rfl rfl rfl rfl rfl rfl rfl rfl hL hx hi (by omega) ?_
  refine fp_iv [.int (Int32.ofInt ((xs (i + 1)).toInt))] rfl rfl 858 rfl rfl rfl (by simp) (by omega) g0 rfl rfl rfl (call_fp (c_count (K := fun v I' => v = oCount S ((xs (i + 1)).toInt) ∧ HFr I I' ∧ RSC I' S) (i32_in _) hS (inv_h5 hI) ⟨rfl, fun _ _ => rfl, hS⟩) hShp rfl) ?_
  rintro _ _ ⟨_, I1, rfl, rfl, rfl, h1, h2⟩
  have hR := rsr_h h1 hR
  refine fp_aload rfl rfl 859 rfl rfl ?_
  refine fp_arg 1 859 860 861 862 863 864 rfl rfl rfl rfl rfl rfl rfl rfl rfl rfl rfl hL hx hi (by omega) ?_
  refine fp_iv [.int (Int32.ofInt ((xs (i + 1)).toInt))] rfl rfl 867 rfl rfl rfl (by simp) (by omega) g9 rfl rfl rfl (call_fp (c_rcount (K := fun v I' => v = oCount S ((xs (i + 1)).toInt) ∧ LFr I1 I' ∧ RSR I' S) (i32_in _) hR ⟨rfl, fun _ _ => rfl, hR⟩) hShp rfl) ?_
  rintro _ _ ⟨_, I2, rfl, rfl, rfl, h3, h4⟩
  refine fp_eq1 rfl rfl rfl ?_
  exact nx I2 _ (rsc_l h3 h2) h4 (hI)
set_option maxRecDepth 100000 in
set_option maxHeartbeats 2000000 in
theorem lw_22 {L M i : Nat} {xs : Nat → Int32} {x : Int32} {G : Gm} {I : Mm} {S : St} {P : Option Value → Sg → Prop} (hL : L ≤ 3072) (hx : x = Int32.ofInt (i : Int)) (hi : i + 6 ≤ L) (hShp : Shp 260 G) (hS : RSC I S) (hR : RSR I S) (hI : Inv S) (nx : ∀ (I' : Mm) (S' : St), RSC I' S' → RSR I' S' → Inv S' → Fp (some (L, xs)) 215 885 [some (.retAddr 0), some (.ref 0), some (.ref 212), some (.int x)] [] (260, M, G, I') P) : Fp (some (L, xs)) 215 872 [some (.retAddr 0), some (.ref 0), some (.ref 212), some (.int x)] [] (260, M, G, I) P := by
  have hO := inv_sok hI
  have g0 : (G 0).1 = 8 := (hShp.1 (0, 0, 0) trivial (by decide)).2.1
  have g9 : (G 212).1 = 9 := (hShp.1 (3, 0, 0) trivial (by decide)).2.1
  refine fp_aload rfl rfl 873 rfl rfl ?_
  refine fp_iv [] rfl rfl 876 rfl rfl rfl (by simp) (by omega) g0 rfl rfl rfl (call_fp (c_audit (K := fun v I' => v = audL S 6 0 ∧ HFr I I' ∧ RSC I' S) hS hO (inv_sak hI) (fun I' h1 h2 => ⟨rfl, h1, h2⟩)) hShp rfl) ?_
  rintro _ _ ⟨_, I1, rfl, rfl, rfl, h1, h2⟩
  have hR := rsr_h h1 hR
  refine fp_aload rfl rfl 877 rfl rfl ?_
  refine fp_iv [] rfl rfl 880 rfl rfl rfl (by simp) (by omega) g9 rfl rfl rfl (call_fp (c_raudit (K := fun v I' => v = audL S 6 0 ∧ LFr I1 I' ∧ RSR I' S) hR hO (fun I' h1 h2 => ⟨rfl, h1, h2⟩)) hShp rfl) ?_
  rintro _ _ ⟨_, I2, rfl, rfl, rfl, h3, h4⟩
  refine fp_eq1 rfl rfl rfl ?_
  exact nx I2 _ (rsc_l h3 h2) h4 (hI)
