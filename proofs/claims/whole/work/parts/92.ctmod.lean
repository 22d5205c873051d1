/-! THE REFERENCE'S CONSTRUCTOR -/
theorem fp_G {X : Option (Nat × (Nat → Int32))} {f pc N M : Nat} {G G' : Gm} {I : Mm} {ls : Lc} {st : List Value} {P : Option Value → Sg → Prop} (hG : G = G') (h : Fp X f pc ls st (N, M, G', I) P) : Fp X f pc ls st (N, M, G, I) P := by
  subst hG; exact h
theorem fp_ixor {X : Option (Nat × (Nat → Int32))} {f pc n a b N M : Nat} {v : Int32} {G : Gm} {I : Mm} {ls : Lc} {st : List Value} {P : Option Value → Sg → Prop} {mm : MT} {x y : Int32} (hm : mT f = some mm) (hl : lkE (cd f) pc = some (pc, .ixor, n, v, a, b)) (pc' : Nat) (hp : pc + n = pc')
    (h : Fp X f pc' ls (.int (x ^^^ y) :: st) (N, M, G, I) P) : Fp X f pc ls (.int y :: .int x :: st) (N, M, G, I) P :=
  fp_stp hm hl (fun cl kn => by subst hp; exact rfl) h
def gS (G : Gm) (a k l b : Nat) : Gm := gRef (gNew G a k l) 212 b a
theorem gS_k (G : Gm) (a k l b : Nat) (h : 212 ≠ a) : (gS G a k l b 212).1 = (G 212).1 := by unfold gS; rw [gRef_k, gNew_o _ _ _ _ h]
theorem gS_r (G : Gm) (a k l b : Nat) {i : Nat} (h : 212 ≠ a) (hi : i ≠ b) : (gS G a k l b 212).2.2 i = (G 212).2.2 i := by unfold gS; rw [gRef_j _ _ _ _ hi, gNew_o _ _ _ _ h]
theorem gS_s (G : Gm) (a k l b : Nat) : (gS G a k l b 212).2.2 b = some a := by unfold gS; rw [gRef_s]
theorem gS_o (G : Gm) (a k l b : Nat) {c : Nat} (h : c ≠ 212) (hc : c ≠ a) : gS G a k l b c = G c := by unfold gS; rw [gRef_o _ _ _ _ h, gNew_o _ _ _ _ hc]
theorem gS_a (G : Gm) (a k l b : Nat) (h : a ≠ 212) : gS G a k l b a = (k, l, fun _ => none) := by unfold gS; rw [gRef_o _ _ _ _ h, gNew_s]
def gM0 (G : Gm) : Gm := G
theorem gM0_k {G : Gm} : (gM0 G 212).1 = (G 212).1 := rfl
def gM1 (G : Gm) : Gm := gS (gM0 G) 213 10 1280 0
theorem gM1_k {G : Gm} : (gM1 G 212).1 = (G 212).1 := by unfold gM1; rw [gS_k _ _ _ _ _ (by decide)]; exact gM0_k
def gM2 (G : Gm) : Gm := gS (gM1 G) 214 10 1280 1
theorem gM2_k {G : Gm} : (gM2 G 212).1 = (G 212).1 := by unfold gM2; rw [gS_k _ _ _ _ _ (by decide)]; exact gM1_k
def gM3 (G : Gm) : Gm := gS (gM2 G) 215 11 320 2
theorem gM3_k {G : Gm} : (gM3 G 212).1 = (G 212).1 := by unfold gM3; rw [gS_k _ _ _ _ _ (by decide)]; exact gM2_k
def gM4 (G : Gm) : Gm := gS (gM3 G) 216 11 320 3
theorem gM4_k {G : Gm} : (gM4 G 212).1 = (G 212).1 := by unfold gM4; rw [gS_k _ _ _ _ _ (by decide)]; exact gM3_k
def gM5 (G : Gm) : Gm := gS (gM4 G) 217 10 320 4
theorem gM5_k {G : Gm} : (gM5 G 212).1 = (G 212).1 := by unfold gM5; rw [gS_k _ _ _ _ _ (by decide)]; exact gM4_k
def gM6 (G : Gm) : Gm := gS (gM5 G) 218 11 8 5
theorem gM6_k {G : Gm} : (gM6 G 212).1 = (G 212).1 := by unfold gM6; rw [gS_k _ _ _ _ _ (by decide)]; exact gM5_k
def gM7 (G : Gm) : Gm := gS (gM6 G) 219 10 8 6
theorem gM7_k {G : Gm} : (gM7 G 212).1 = (G 212).1 := by unfold gM7; rw [gS_k _ _ _ _ _ (by decide)]; exact gM6_k
def gM8 (G : Gm) : Gm := gS (gM7 G) 220 10 1600 7
theorem gM8_k {G : Gm} : (gM8 G 212).1 = (G 212).1 := by unfold gM8; rw [gS_k _ _ _ _ _ (by decide)]; exact gM7_k
def gM9 (G : Gm) : Gm := gS (gM8 G) 221 11 1600 8
theorem gM9_k {G : Gm} : (gM9 G 212).1 = (G 212).1 := by unfold gM9; rw [gS_k _ _ _ _ _ (by decide)]; exact gM8_k
def gM10 (G : Gm) : Gm := gS (gM9 G) 222 10 6400 9
theorem gM10_k {G : Gm} : (gM10 G 212).1 = (G 212).1 := by unfold gM10; rw [gS_k _ _ _ _ _ (by decide)]; exact gM9_k
def gM11 (G : Gm) : Gm := gS (gM10 G) 223 10 1600 10
theorem gM11_k {G : Gm} : (gM11 G 212).1 = (G 212).1 := by unfold gM11; rw [gS_k _ _ _ _ _ (by decide)]; exact gM10_k
def gM12 (G : Gm) : Gm := gS (gM11 G) 224 11 6 11
theorem gM12_k {G : Gm} : (gM12 G 212).1 = (G 212).1 := by unfold gM12; rw [gS_k _ _ _ _ _ (by decide)]; exact gM11_k
def gM13 (G : Gm) : Gm := gS (gM12 G) 225 10 6 12
theorem gM13_k {G : Gm} : (gM13 G 212).1 = (G 212).1 := by unfold gM13; rw [gS_k _ _ _ _ _ (by decide)]; exact gM12_k
def gM14 (G : Gm) : Gm := gS (gM13 G) 226 10 18 13
theorem gM14_k {G : Gm} : (gM14 G 212).1 = (G 212).1 := by unfold gM14; rw [gS_k _ _ _ _ _ (by decide)]; exact gM13_k
def gM15 (G : Gm) : Gm := gS (gM14 G) 227 11 6 14
theorem gM15_k {G : Gm} : (gM15 G 212).1 = (G 212).1 := by unfold gM15; rw [gS_k _ _ _ _ _ (by decide)]; exact gM14_k
def gM16 (G : Gm) : Gm := gS (gM15 G) 228 10 6 15
theorem gM16_k {G : Gm} : (gM16 G 212).1 = (G 212).1 := by unfold gM16; rw [gS_k _ _ _ _ _ (by decide)]; exact gM15_k
def gM17 (G : Gm) : Gm := gS (gM16 G) 229 10 6 16
theorem gM17_k {G : Gm} : (gM17 G 212).1 = (G 212).1 := by unfold gM17; rw [gS_k _ _ _ _ _ (by decide)]; exact gM16_k
def gM18 (G : Gm) : Gm := gS (gM17 G) 230 10 6 17
theorem gM18_k {G : Gm} : (gM18 G 212).1 = (G 212).1 := by unfold gM18; rw [gS_k _ _ _ _ _ (by decide)]; exact gM17_k
def gM19 (G : Gm) : Gm := gS (gM18 G) 231 10 6 18
theorem gM19_k {G : Gm} : (gM19 G 212).1 = (G 212).1 := by unfold gM19; rw [gS_k _ _ _ _ _ (by decide)]; exact gM18_k
def gM20 (G : Gm) : Gm := gS (gM19 G) 232 10 6 19
theorem gM20_k {G : Gm} : (gM20 G 212).1 = (G 212).1 := by unfold gM20; rw [gS_k _ _ _ _ _ (by decide)]; exact gM19_k
def gM21 (G : Gm) : Gm := gS (gM20 G) 233 10 6 20
theorem gM21_k {G : Gm} : (gM21 G 212).1 = (G 212).1 := by unfold gM21; rw [gS_k _ _ _ _ _ (by decide)]; exact gM20_k
def gM22 (G : Gm) : Gm := gS (gM21 G) 234 11 1800 21
theorem gM22_k {G : Gm} : (gM22 G 212).1 = (G 212).1 := by unfold gM22; rw [gS_k _ _ _ _ _ (by decide)]; exact gM21_k
def gM23 (G : Gm) : Gm := gS (gM22 G) 235 10 5400 22
theorem gM23_k {G : Gm} : (gM23 G 212).1 = (G 212).1 := by unfold gM23; rw [gS_k _ _ _ _ _ (by decide)]; exact gM22_k
def gM24 (G : Gm) : Gm := gS (gM23 G) 236 10 1800 23
theorem gM24_k {G : Gm} : (gM24 G 212).1 = (G 212).1 := by unfold gM24; rw [gS_k _ _ _ _ _ (by decide)]; exact gM23_k
def gM25 (G : Gm) : Gm := gS (gM24 G) 237 10 6 24
theorem gM25_k {G : Gm} : (gM25 G 212).1 = (G 212).1 := by unfold gM25; rw [gS_k _ _ _ _ _ (by decide)]; exact gM24_k
def gM26 (G : Gm) : Gm := gS (gM25 G) 238 10 6 25
theorem gM26_k {G : Gm} : (gM26 G 212).1 = (G 212).1 := by unfold gM26; rw [gS_k _ _ _ _ _ (by decide)]; exact gM25_k
def gM27 (G : Gm) : Gm := gS (gM26 G) 239 10 11520 26
theorem gM27_k {G : Gm} : (gM27 G 212).1 = (G 212).1 := by unfold gM27; rw [gS_k _ _ _ _ _ (by decide)]; exact gM26_k
def gM28 (G : Gm) : Gm := gS (gM27 G) 240 10 3840 27
theorem gM28_k {G : Gm} : (gM28 G 212).1 = (G 212).1 := by unfold gM28; rw [gS_k _ _ _ _ _ (by decide)]; exact gM27_k
def gM29 (G : Gm) : Gm := gS (gM28 G) 241 10 6 28
theorem gM29_k {G : Gm} : (gM29 G 212).1 = (G 212).1 := by unfold gM29; rw [gS_k _ _ _ _ _ (by decide)]; exact gM28_k
def gM30 (G : Gm) : Gm := gS (gM29 G) 242 11 2160 29
theorem gM30_k {G : Gm} : (gM30 G 212).1 = (G 212).1 := by unfold gM30; rw [gS_k _ _ _ _ _ (by decide)]; exact gM29_k
def gM31 (G : Gm) : Gm := gS (gM30 G) 243 10 2160 30
theorem gM31_k {G : Gm} : (gM31 G 212).1 = (G 212).1 := by unfold gM31; rw [gS_k _ _ _ _ _ (by decide)]; exact gM30_k
def gM32 (G : Gm) : Gm := gS (gM31 G) 244 10 32400 31
theorem gM32_k {G : Gm} : (gM32 G 212).1 = (G 212).1 := by unfold gM32; rw [gS_k _ _ _ _ _ (by decide)]; exact gM31_k
def gM33 (G : Gm) : Gm := gS (gM32 G) 245 10 10800 32
theorem gM33_k {G : Gm} : (gM33 G 212).1 = (G 212).1 := by unfold gM33; rw [gS_k _ _ _ _ _ (by decide)]; exact gM32_k
def gM34 (G : Gm) : Gm := gS (gM33 G) 246 10 12960 33
theorem gM34_k {G : Gm} : (gM34 G 212).1 = (G 212).1 := by unfold gM34; rw [gS_k _ _ _ _ _ (by decide)]; exact gM33_k
def gM35 (G : Gm) : Gm := gS (gM34 G) 247 10 4 34
theorem gM35_k {G : Gm} : (gM35 G 212).1 = (G 212).1 := by unfold gM35; rw [gS_k _ _ _ _ _ (by decide)]; exact gM34_k
def gM36 (G : Gm) : Gm := gS (gM35 G) 248 10 4 35
theorem gM36_k {G : Gm} : (gM36 G 212).1 = (G 212).1 := by unfold gM36; rw [gS_k _ _ _ _ _ (by decide)]; exact gM35_k
def gM37 (G : Gm) : Gm := gS (gM36 G) 249 10 320 37
theorem gM37_k {G : Gm} : (gM37 G 212).1 = (G 212).1 := by unfold gM37; rw [gS_k _ _ _ _ _ (by decide)]; exact gM36_k
def gM38 (G : Gm) : Gm := gS (gM37 G) 250 10 3 40
theorem gM38_k {G : Gm} : (gM38 G 212).1 = (G 212).1 := by unfold gM38; rw [gS_k _ _ _ _ _ (by decide)]; exact gM37_k
def gM39 (G : Gm) : Gm := gS (gM38 G) 251 10 16 43
theorem gM39_k {G : Gm} : (gM39 G 212).1 = (G 212).1 := by unfold gM39; rw [gS_k _ _ _ _ _ (by decide)]; exact gM38_k
def gM40 (G : Gm) : Gm := gS (gM39 G) 252 10 16 44
theorem gM40_k {G : Gm} : (gM40 G 212).1 = (G 212).1 := by unfold gM40; rw [gS_k _ _ _ _ _ (by decide)]; exact gM39_k
def gM41 (G : Gm) : Gm := gS (gM40 G) 253 10 1800 46
theorem gM41_k {G : Gm} : (gM41 G 212).1 = (G 212).1 := by unfold gM41; rw [gS_k _ _ _ _ _ (by decide)]; exact gM40_k
def gM42 (G : Gm) : Gm := gS (gM41 G) 254 10 1800 47
theorem gM42_k {G : Gm} : (gM42 G 212).1 = (G 212).1 := by unfold gM42; rw [gS_k _ _ _ _ _ (by decide)]; exact gM41_k
def gM43 (G : Gm) : Gm := gS (gM42 G) 255 10 8 48
theorem gM43_k {G : Gm} : (gM43 G 212).1 = (G 212).1 := by unfold gM43; rw [gS_k _ _ _ _ _ (by decide)]; exact gM42_k
def gM44 (G : Gm) : Gm := gS (gM43 G) 256 10 4 51
theorem gM44_k {G : Gm} : (gM44 G 212).1 = (G 212).1 := by unfold gM44; rw [gS_k _ _ _ _ _ (by decide)]; exact gM43_k
def gM45 (G : Gm) : Gm := gS (gM44 G) 257 10 1280 52
theorem gM45_k {G : Gm} : (gM45 G 212).1 = (G 212).1 := by unfold gM45; rw [gS_k _ _ _ _ _ (by decide)]; exact gM44_k
def gM46 (G : Gm) : Gm := gS (gM45 G) 258 11 320 53
theorem gM46_k {G : Gm} : (gM46 G 212).1 = (G 212).1 := by unfold gM46; rw [gS_k _ _ _ _ _ (by decide)]; exact gM45_k
def gM47 (G : Gm) : Gm := gS (gM46 G) 259 10 320 54
theorem gM47_k {G : Gm} : (gM47 G 212).1 = (G 212).1 := by unfold gM47; rw [gS_k _ _ _ _ _ (by decide)]; exact gM46_k
theorem gMr_4 {G : Gm} : (gM47 G 212).2.2 4 = some 217 := by unfold gM47 gM46 gM45 gM44 gM43 gM42 gM41 gM40 gM39 gM38 gM37 gM36 gM35 gM34 gM33 gM32 gM31 gM30 gM29 gM28 gM27 gM26 gM25 gM24 gM23 gM22 gM21 gM20 gM19 gM18 gM17 gM16 gM15 gM14 gM13 gM12 gM11 gM10 gM9 gM8 gM7 gM6 gM5; rw [gS_r _ _ _ _ _ (by decide) (by decide), gS_r _ _ _ _ _ (by decide) (by decide), gS_r _ _ _ _ _ (by decide) (by decide), gS_r _ _ _ _ _ (by decide) (by decide), gS_r _ _ _ _ _ (by decide) (by decide), gS_r _ _ _ _ _ (by decide) (by decide), gS_r _ _ _ _ _ (by decide) (by decide), gS_r _ _ _ _ _ (by decide) (by decide), gS_r _ _ _ _ _ (by decide) (by decide), gS_r _ _ _ _ _ (by decide) (by decide), gS_r _ _ _ _ _ (by decide) (by decide), gS_r _ _ _ _ _ (by decide) (by decide), gS_r _ _ _ _ _ (by decide) (by decide), gS_r _ _ _ _ _ (by decide) (by decide), gS_r _ _ _ _ _ (by decide) (by decide), gS_r _ _ _ _ _ (by decide) (by decide), gS_r _ _ _ _ _ (by decide) (by decide), gS_r _ _ _ _ _ (by decide) (by decide), gS_r _ _ _ _ _ (by decide) (by decide), gS_r _ _ _ _ _ (by decide) (by decide), gS_r _ _ _ _ _ (by decide) (by decide), gS_r _ _ _ _ _ (by decide) (by decide), gS_r _ _ _ _ _ (by decide) (by decide), gS_r _ _ _ _ _ (by decide) (by decide), gS_r _ _ _ _ _ (by decide) (by decide), gS_r _ _ _ _ _ (by decide) (by decide), gS_r _ _ _ _ _ (by decide) (by decide), gS_r _ _ _ _ _ (by decide) (by decide), gS_r _ _ _ _ _ (by decide) (by decide), gS_r _ _ _ _ _ (by decide) (by decide), gS_r _ _ _ _ _ (by decide) (by decide), gS_r _ _ _ _ _ (by decide) (by decide), gS_r _ _ _ _ _ (by decide) (by decide), gS_r _ _ _ _ _ (by decide) (by decide), gS_r _ _ _ _ _ (by decide) (by decide), gS_r _ _ _ _ _ (by decide) (by decide), gS_r _ _ _ _ _ (by decide) (by decide), gS_r _ _ _ _ _ (by decide) (by decide), gS_r _ _ _ _ _ (by decide) (by decide), gS_r _ _ _ _ _ (by decide) (by decide), gS_r _ _ _ _ _ (by decide) (by decide), gS_r _ _ _ _ _ (by decide) (by decide), gS_s]
theorem gMc_217 {G : Gm} : gM47 G 217 = (10, 320, fun _ => none) := by unfold gM47 gM46 gM45 gM44 gM43 gM42 gM41 gM40 gM39 gM38 gM37 gM36 gM35 gM34 gM33 gM32 gM31 gM30 gM29 gM28 gM27 gM26 gM25 gM24 gM23 gM22 gM21 gM20 gM19 gM18 gM17 gM16 gM15 gM14 gM13 gM12 gM11 gM10 gM9 gM8 gM7 gM6 gM5; rw [gS_o _ _ _ _ _ (by decide) (by decide), gS_o _ _ _ _ _ (by decide) (by decide), gS_o _ _ _ _ _ (by decide) (by decide), gS_o _ _ _ _ _ (by decide) (by decide), gS_o _ _ _ _ _ (by decide) (by decide), gS_o _ _ _ _ _ (by decide) (by decide), gS_o _ _ _ _ _ (by decide) (by decide), gS_o _ _ _ _ _ (by decide) (by decide), gS_o _ _ _ _ _ (by decide) (by decide), gS_o _ _ _ _ _ (by decide) (by decide), gS_o _ _ _ _ _ (by decide) (by decide), gS_o _ _ _ _ _ (by decide) (by decide), gS_o _ _ _ _ _ (by decide) (by decide), gS_o _ _ _ _ _ (by decide) (by decide), gS_o _ _ _ _ _ (by decide) (by decide), gS_o _ _ _ _ _ (by decide) (by decide), gS_o _ _ _ _ _ (by decide) (by decide), gS_o _ _ _ _ _ (by decide) (by decide), gS_o _ _ _ _ _ (by decide) (by decide), gS_o _ _ _ _ _ (by decide) (by decide), gS_o _ _ _ _ _ (by decide) (by decide), gS_o _ _ _ _ _ (by decide) (by decide), gS_o _ _ _ _ _ (by decide) (by decide), gS_o _ _ _ _ _ (by decide) (by decide), gS_o _ _ _ _ _ (by decide) (by decide), gS_o _ _ _ _ _ (by decide) (by decide), gS_o _ _ _ _ _ (by decide) (by decide), gS_o _ _ _ _ _ (by decide) (by decide), gS_o _ _ _ _ _ (by decide) (by decide), gS_o _ _ _ _ _ (by decide) (by decide), gS_o _ _ _ _ _ (by decide) (by decide), gS_o _ _ _ _ _ (by decide) (by decide), gS_o _ _ _ _ _ (by decide) (by decide), gS_o _ _ _ _ _ (by decide) (by decide), gS_o _ _ _ _ _ (by decide) (by decide), gS_o _ _ _ _ _ (by decide) (by decide), gS_o _ _ _ _ _ (by decide) (by decide), gS_o _ _ _ _ _ (by decide) (by decide), gS_o _ _ _ _ _ (by decide) (by decide), gS_o _ _ _ _ _ (by decide) (by decide), gS_o _ _ _ _ _ (by decide) (by decide), gS_o _ _ _ _ _ (by decide) (by decide), gS_a _ _ _ _ _ (by decide)]
theorem gMr_34 {G : Gm} : (gM47 G 212).2.2 34 = some 247 := by unfold gM47 gM46 gM45 gM44 gM43 gM42 gM41 gM40 gM39 gM38 gM37 gM36 gM35; rw [gS_r _ _ _ _ _ (by decide) (by decide), gS_r _ _ _ _ _ (by decide) (by decide), gS_r _ _ _ _ _ (by decide) (by decide), gS_r _ _ _ _ _ (by decide) (by decide), gS_r _ _ _ _ _ (by decide) (by decide), gS_r _ _ _ _ _ (by decide) (by decide), gS_r _ _ _ _ _ (by decide) (by decide), gS_r _ _ _ _ _ (by decide) (by decide), gS_r _ _ _ _ _ (by decide) (by decide), gS_r _ _ _ _ _ (by decide) (by decide), gS_r _ _ _ _ _ (by decide) (by decide), gS_r _ _ _ _ _ (by decide) (by decide), gS_s]
theorem gMc_247 {G : Gm} : gM47 G 247 = (10, 4, fun _ => none) := by unfold gM47 gM46 gM45 gM44 gM43 gM42 gM41 gM40 gM39 gM38 gM37 gM36 gM35; rw [gS_o _ _ _ _ _ (by decide) (by decide), gS_o _ _ _ _ _ (by decide) (by decide), gS_o _ _ _ _ _ (by decide) (by decide), gS_o _ _ _ _ _ (by decide) (by decide), gS_o _ _ _ _ _ (by decide) (by decide), gS_o _ _ _ _ _ (by decide) (by decide), gS_o _ _ _ _ _ (by decide) (by decide), gS_o _ _ _ _ _ (by decide) (by decide), gS_o _ _ _ _ _ (by decide) (by decide), gS_o _ _ _ _ _ (by decide) (by decide), gS_o _ _ _ _ _ (by decide) (by decide), gS_o _ _ _ _ _ (by decide) (by decide), gS_a _ _ _ _ _ (by decide)]
theorem gMr_35 {G : Gm} : (gM47 G 212).2.2 35 = some 248 := by unfold gM47 gM46 gM45 gM44 gM43 gM42 gM41 gM40 gM39 gM38 gM37 gM36; rw [gS_r _ _ _ _ _ (by decide) (by decide), gS_r _ _ _ _ _ (by decide) (by decide), gS_r _ _ _ _ _ (by decide) (by decide), gS_r _ _ _ _ _ (by decide) (by decide), gS_r _ _ _ _ _ (by decide) (by decide), gS_r _ _ _ _ _ (by decide) (by decide), gS_r _ _ _ _ _ (by decide) (by decide), gS_r _ _ _ _ _ (by decide) (by decide), gS_r _ _ _ _ _ (by decide) (by decide), gS_r _ _ _ _ _ (by decide) (by decide), gS_r _ _ _ _ _ (by decide) (by decide), gS_s]
theorem gMc_248 {G : Gm} : gM47 G 248 = (10, 4, fun _ => none) := by unfold gM47 gM46 gM45 gM44 gM43 gM42 gM41 gM40 gM39 gM38 gM37 gM36; rw [gS_o _ _ _ _ _ (by decide) (by decide), gS_o _ _ _ _ _ (by decide) (by decide), gS_o _ _ _ _ _ (by decide) (by decide), gS_o _ _ _ _ _ (by decide) (by decide), gS_o _ _ _ _ _ (by decide) (by decide), gS_o _ _ _ _ _ (by decide) (by decide), gS_o _ _ _ _ _ (by decide) (by decide), gS_o _ _ _ _ _ (by decide) (by decide), gS_o _ _ _ _ _ (by decide) (by decide), gS_o _ _ _ _ _ (by decide) (by decide), gS_o _ _ _ _ _ (by decide) (by decide), gS_a _ _ _ _ _ (by decide)]
/-- the reference's cells, made -/
def FcR (I : Mm) : Prop := (I 213 = (fun _ => 0) ∧ I 214 = (fun _ => 0) ∧ I 215 = (fun _ => 0) ∧ I 216 = (fun _ => 0) ∧ I 218 = (fun _ => 0) ∧ I 224 = (fun _ => 0) ∧ I 243 = (fun _ => 0)) ∧ (∀ p, p < 320 → I 217 p = -1) ∧ (I 212 36 = 0 ∧ I 212 38 = -1 ∧ I 212 39 = 0) ∧ (∀ f, f < 4 → I 247 f = -2147483648) ∧ ∀ f, f < 4 → I 248 f = 2147483647
set_option maxRecDepth 100000 in
set_option maxHeartbeats 4000000 in
theorem c_mod {M : Nat} {G : Gm} {I : Mm} (hk : (G 212).1 = 9) (hz : I 212 = fun _ => 0) : Fp none 134 0 [some (.ref 212), none] [] (213, M, G, I) (fun rv σ' => rv = none ∧ ∃ (M' : Nat) (I' : Mm), σ' = (260, M', gM47 G, I') ∧ M' ≤ M + 105561 ∧ (∀ c, c < 212 → I' c = I c) ∧ FcR I') := by
  refine fp_aload rfl rfl 1 rfl rfl ?_
  refine fp_oi (a := 0) (st := []) rfl rfl 4 rfl ?_
  refine fp_aload rfl rfl 5 rfl rfl ?_
  refine fp_sipush rfl rfl 8 rfl ?_
  refine fp_na rfl rfl 10 rfl 214 rfl (okl_2n (by omega)) (oks_1 (by omega)) 1280 (by decide) (by decide) (by decide) (Or.inl rfl) ?_
  refine fp_pr rfl rfl 13 rfl (by omega) (by rw [gNew_o _ _ _ _ (by omega)]; exact hk) rfl (by omega) ?_
  refine fp_G (G' := gM1 G) rfl ?_
  refine fp_aload rfl rfl 14 rfl rfl ?_
  refine fp_sipush rfl rfl 17 rfl ?_
  refine fp_na rfl rfl 19 rfl 215 rfl (okl_2n (by omega)) (oks_1 (by omega)) 1280 (by decide) (by decide) (by decide) (Or.inl rfl) ?_
  refine fp_pr rfl rfl 22 rfl (by omega) (by rw [gNew_o _ _ _ _ (by omega)]; exact ((gM1_k).trans hk)) rfl (by omega) ?_
  refine fp_G (G' := gM2 G) rfl ?_
  refine fp_aload rfl rfl 23 rfl rfl ?_
  refine fp_sipush rfl rfl 26 rfl ?_
  refine fp_na rfl rfl 28 rfl 216 rfl (okl_2n (by omega)) (oks_1 (by omega)) 320 (by decide) (by decide) (by decide) (Or.inr rfl) ?_
  refine fp_pr rfl rfl 31 rfl (by omega) (by rw [gNew_o _ _ _ _ (by omega)]; exact ((gM2_k).trans hk)) rfl (by omega) ?_
  refine fp_G (G' := gM3 G) rfl ?_
  refine fp_aload rfl rfl 32 rfl rfl ?_
  refine fp_sipush rfl rfl 35 rfl ?_
  refine fp_na rfl rfl 37 rfl 217 rfl (okl_2n (by omega)) (oks_1 (by omega)) 320 (by decide) (by decide) (by decide) (Or.inr rfl) ?_
  refine fp_pr rfl rfl 40 rfl (by omega) (by rw [gNew_o _ _ _ _ (by omega)]; exact ((gM3_k).trans hk)) rfl (by omega) ?_
  refine fp_G (G' := gM4 G) rfl ?_
  refine fp_aload rfl rfl 41 rfl rfl ?_
  refine fp_sipush rfl rfl 44 rfl ?_
  refine fp_na rfl rfl 46 rfl 218 rfl (okl_2n (by omega)) (oks_1 (by omega)) 320 (by decide) (by decide) (by decide) (Or.inl rfl) ?_
  refine fp_pr rfl rfl 49 rfl (by omega) (by rw [gNew_o _ _ _ _ (by omega)]; exact ((gM4_k).trans hk)) rfl (by omega) ?_
  refine fp_G (G' := gM5 G) rfl ?_
  refine fp_aload rfl rfl 50 rfl rfl ?_
  refine fp_bipush rfl rfl 52 rfl ?_
  refine fp_na rfl rfl 54 rfl 219 rfl (okl_2n (by omega)) (oks_1 (by omega)) 8 (by decide) (by decide) (by decide) (Or.inr rfl) ?_
  refine fp_pr rfl rfl 57 rfl (by omega) (by rw [gNew_o _ _ _ _ (by omega)]; exact ((gM5_k).trans hk)) rfl (by omega) ?_
  refine fp_G (G' := gM6 G) rfl ?_
  refine fp_aload rfl rfl 58 rfl rfl ?_
  refine fp_bipush rfl rfl 60 rfl ?_
  refine fp_na rfl rfl 62 rfl 220 rfl (okl_2n (by omega)) (oks_1 (by omega)) 8 (by decide) (by decide) (by decide) (Or.inl rfl) ?_
  refine fp_pr rfl rfl 65 rfl (by omega) (by rw [gNew_o _ _ _ _ (by omega)]; exact ((gM6_k).trans hk)) rfl (by omega) ?_
  refine fp_G (G' := gM7 G) rfl ?_
  refine fp_aload rfl rfl 66 rfl rfl ?_
  refine fp_sipush rfl rfl 69 rfl ?_
  refine fp_na rfl rfl 71 rfl 221 rfl (okl_2n (by omega)) (oks_1 (by omega)) 1600 (by decide) (by decide) (by decide) (Or.inl rfl) ?_
  refine fp_pr rfl rfl 74 rfl (by omega) (by rw [gNew_o _ _ _ _ (by omega)]; exact ((gM7_k).trans hk)) rfl (by omega) ?_
  refine fp_G (G' := gM8 G) rfl ?_
  refine fp_aload rfl rfl 75 rfl rfl ?_
  refine fp_sipush rfl rfl 78 rfl ?_
  refine fp_na rfl rfl 80 rfl 222 rfl (okl_2n (by omega)) (oks_1 (by omega)) 1600 (by decide) (by decide) (by decide) (Or.inr rfl) ?_
  refine fp_pr rfl rfl 83 rfl (by omega) (by rw [gNew_o _ _ _ _ (by omega)]; exact ((gM8_k).trans hk)) rfl (by omega) ?_
  refine fp_G (G' := gM9 G) rfl ?_
  refine fp_aload rfl rfl 84 rfl rfl ?_
  refine fp_sipush rfl rfl 87 rfl ?_
  refine fp_na rfl rfl 89 rfl 223 rfl (okl_2n (by omega)) (oks_1 (by omega)) 6400 (by decide) (by decide) (by decide) (Or.inl rfl) ?_
  refine fp_pr rfl rfl 92 rfl (by omega) (by rw [gNew_o _ _ _ _ (by omega)]; exact ((gM9_k).trans hk)) rfl (by omega) ?_
  refine fp_G (G' := gM10 G) rfl ?_
  refine fp_aload rfl rfl 93 rfl rfl ?_
  refine fp_sipush rfl rfl 96 rfl ?_
  refine fp_na rfl rfl 98 rfl 224 rfl (okl_2n (by omega)) (oks_1 (by omega)) 1600 (by decide) (by decide) (by decide) (Or.inl rfl) ?_
  refine fp_pr rfl rfl 101 rfl (by omega) (by rw [gNew_o _ _ _ _ (by omega)]; exact ((gM10_k).trans hk)) rfl (by omega) ?_
  refine fp_G (G' := gM11 G) rfl ?_
  refine fp_aload rfl rfl 102 rfl rfl ?_
  refine fp_bipush rfl rfl 104 rfl ?_
  refine fp_na rfl rfl 106 rfl 225 rfl (okl_2n (by omega)) (oks_1 (by omega)) 6 (by decide) (by decide) (by decide) (Or.inr rfl) ?_
  refine fp_pr rfl rfl 109 rfl (by omega) (by rw [gNew_o _ _ _ _ (by omega)]; exact ((gM11_k).trans hk)) rfl (by omega) ?_
  refine fp_G (G' := gM12 G) rfl ?_
  refine fp_aload rfl rfl 110 rfl rfl ?_
  refine fp_bipush rfl rfl 112 rfl ?_
  refine fp_na rfl rfl 114 rfl 226 rfl (okl_2n (by omega)) (oks_1 (by omega)) 6 (by decide) (by decide) (by decide) (Or.inl rfl) ?_
  refine fp_pr rfl rfl 117 rfl (by omega) (by rw [gNew_o _ _ _ _ (by omega)]; exact ((gM12_k).trans hk)) rfl (by omega) ?_
  refine fp_G (G' := gM13 G) rfl ?_
  refine fp_aload rfl rfl 118 rfl rfl ?_
  refine fp_bipush rfl rfl 120 rfl ?_
  refine fp_na rfl rfl 122 rfl 227 rfl (okl_2n (by omega)) (oks_1 (by omega)) 18 (by decide) (by decide) (by decide) (Or.inl rfl) ?_
  refine fp_pr rfl rfl 125 rfl (by omega) (by rw [gNew_o _ _ _ _ (by omega)]; exact ((gM13_k).trans hk)) rfl (by omega) ?_
  refine fp_G (G' := gM14 G) rfl ?_
  refine fp_aload rfl rfl 126 rfl rfl ?_
  refine fp_bipush rfl rfl 128 rfl ?_
  refine fp_na rfl rfl 130 rfl 228 rfl (okl_2n (by omega)) (oks_1 (by omega)) 6 (by decide) (by decide) (by decide) (Or.inr rfl) ?_
  refine fp_pr rfl rfl 133 rfl (by omega) (by rw [gNew_o _ _ _ _ (by omega)]; exact ((gM14_k).trans hk)) rfl (by omega) ?_
  refine fp_G (G' := gM15 G) rfl ?_
  refine fp_aload rfl rfl 134 rfl rfl ?_
  refine fp_bipush rfl rfl 136 rfl ?_
  refine fp_na rfl rfl 138 rfl 229 rfl (okl_2n (by omega)) (oks_1 (by omega)) 6 (by decide) (by decide) (by decide) (Or.inl rfl) ?_
  refine fp_pr rfl rfl 141 rfl (by omega) (by rw [gNew_o _ _ _ _ (by omega)]; exact ((gM15_k).trans hk)) rfl (by omega) ?_
  refine fp_G (G' := gM16 G) rfl ?_
  refine fp_aload rfl rfl 142 rfl rfl ?_
  refine fp_bipush rfl rfl 144 rfl ?_
  refine fp_na rfl rfl 146 rfl 230 rfl (okl_2n (by omega)) (oks_1 (by omega)) 6 (by decide) (by decide) (by decide) (Or.inl rfl) ?_
  refine fp_pr rfl rfl 149 rfl (by omega) (by rw [gNew_o _ _ _ _ (by omega)]; exact ((gM16_k).trans hk)) rfl (by omega) ?_
  refine fp_G (G' := gM17 G) rfl ?_
  refine fp_aload rfl rfl 150 rfl rfl ?_
  refine fp_bipush rfl rfl 152 rfl ?_
  refine fp_na rfl rfl 154 rfl 231 rfl (okl_2n (by omega)) (oks_1 (by omega)) 6 (by decide) (by decide) (by decide) (Or.inl rfl) ?_
  refine fp_pr rfl rfl 157 rfl (by omega) (by rw [gNew_o _ _ _ _ (by omega)]; exact ((gM17_k).trans hk)) rfl (by omega) ?_
  refine fp_G (G' := gM18 G) rfl ?_
  refine fp_aload rfl rfl 158 rfl rfl ?_
  refine fp_bipush rfl rfl 160 rfl ?_
  refine fp_na rfl rfl 162 rfl 232 rfl (okl_2n (by omega)) (oks_1 (by omega)) 6 (by decide) (by decide) (by decide) (Or.inl rfl) ?_
  refine fp_pr rfl rfl 165 rfl (by omega) (by rw [gNew_o _ _ _ _ (by omega)]; exact ((gM18_k).trans hk)) rfl (by omega) ?_
  refine fp_G (G' := gM19 G) rfl ?_
  refine fp_aload rfl rfl 166 rfl rfl ?_
  refine fp_bipush rfl rfl 168 rfl ?_
  refine fp_na rfl rfl 170 rfl 233 rfl (okl_2n (by omega)) (oks_1 (by omega)) 6 (by decide) (by decide) (by decide) (Or.inl rfl) ?_
  refine fp_pr rfl rfl 173 rfl (by omega) (by rw [gNew_o _ _ _ _ (by omega)]; exact ((gM19_k).trans hk)) rfl (by omega) ?_
  refine fp_G (G' := gM20 G) rfl ?_
  refine fp_aload rfl rfl 174 rfl rfl ?_
  refine fp_bipush rfl rfl 176 rfl ?_
  refine fp_na rfl rfl 178 rfl 234 rfl (okl_2n (by omega)) (oks_1 (by omega)) 6 (by decide) (by decide) (by decide) (Or.inl rfl) ?_
  refine fp_pr rfl rfl 181 rfl (by omega) (by rw [gNew_o _ _ _ _ (by omega)]; exact ((gM20_k).trans hk)) rfl (by omega) ?_
  refine fp_G (G' := gM21 G) rfl ?_
  refine fp_aload rfl rfl 182 rfl rfl ?_
  refine fp_sipush rfl rfl 185 rfl ?_
  refine fp_na rfl rfl 187 rfl 235 rfl (okl_2n (by omega)) (oks_1 (by omega)) 1800 (by decide) (by decide) (by decide) (Or.inr rfl) ?_
  refine fp_pr rfl rfl 190 rfl (by omega) (by rw [gNew_o _ _ _ _ (by omega)]; exact ((gM21_k).trans hk)) rfl (by omega) ?_
  refine fp_G (G' := gM22 G) rfl ?_
  refine fp_aload rfl rfl 191 rfl rfl ?_
  refine fp_sipush rfl rfl 194 rfl ?_
  refine fp_na rfl rfl 196 rfl 236 rfl (okl_2n (by omega)) (oks_1 (by omega)) 5400 (by decide) (by decide) (by decide) (Or.inl rfl) ?_
  refine fp_pr rfl rfl 199 rfl (by omega) (by rw [gNew_o _ _ _ _ (by omega)]; exact ((gM22_k).trans hk)) rfl (by omega) ?_
  refine fp_G (G' := gM23 G) rfl ?_
  refine fp_aload rfl rfl 200 rfl rfl ?_
  refine fp_sipush rfl rfl 203 rfl ?_
  refine fp_na rfl rfl 205 rfl 237 rfl (okl_2n (by omega)) (oks_1 (by omega)) 1800 (by decide) (by decide) (by decide) (Or.inl rfl) ?_
  refine fp_pr rfl rfl 208 rfl (by omega) (by rw [gNew_o _ _ _ _ (by omega)]; exact ((gM23_k).trans hk)) rfl (by omega) ?_
  refine fp_G (G' := gM24 G) rfl ?_
  refine fp_aload rfl rfl 209 rfl rfl ?_
  refine fp_bipush rfl rfl 211 rfl ?_
  refine fp_na rfl rfl 213 rfl 238 rfl (okl_2n (by omega)) (oks_1 (by omega)) 6 (by decide) (by decide) (by decide) (Or.inl rfl) ?_
  refine fp_pr rfl rfl 216 rfl (by omega) (by rw [gNew_o _ _ _ _ (by omega)]; exact ((gM24_k).trans hk)) rfl (by omega) ?_
  refine fp_G (G' := gM25 G) rfl ?_
  refine fp_aload rfl rfl 217 rfl rfl ?_
  refine fp_bipush rfl rfl 219 rfl ?_
  refine fp_na rfl rfl 221 rfl 239 rfl (okl_2n (by omega)) (oks_1 (by omega)) 6 (by decide) (by decide) (by decide) (Or.inl rfl) ?_
  refine fp_pr rfl rfl 224 rfl (by omega) (by rw [gNew_o _ _ _ _ (by omega)]; exact ((gM25_k).trans hk)) rfl (by omega) ?_
  refine fp_G (G' := gM26 G) rfl ?_
  refine fp_aload rfl rfl 225 rfl rfl ?_
  refine fp_sipush rfl rfl 228 rfl ?_
  refine fp_na rfl rfl 230 rfl 240 rfl (okl_2n (by omega)) (oks_1 (by omega)) 11520 (by decide) (by decide) (by decide) (Or.inl rfl) ?_
  refine fp_pr rfl rfl 233 rfl (by omega) (by rw [gNew_o _ _ _ _ (by omega)]; exact ((gM26_k).trans hk)) rfl (by omega) ?_
  refine fp_G (G' := gM27 G) rfl ?_
  refine fp_aload rfl rfl 234 rfl rfl ?_
  refine fp_sipush rfl rfl 237 rfl ?_
  refine fp_na rfl rfl 239 rfl 241 rfl (okl_2n (by omega)) (oks_1 (by omega)) 3840 (by decide) (by decide) (by decide) (Or.inl rfl) ?_
  refine fp_pr rfl rfl 242 rfl (by omega) (by rw [gNew_o _ _ _ _ (by omega)]; exact ((gM27_k).trans hk)) rfl (by omega) ?_
  refine fp_G (G' := gM28 G) rfl ?_
  refine fp_aload rfl rfl 243 rfl rfl ?_
  refine fp_bipush rfl rfl 245 rfl ?_
  refine fp_na rfl rfl 247 rfl 242 rfl (okl_2n (by omega)) (oks_1 (by omega)) 6 (by decide) (by decide) (by decide) (Or.inl rfl) ?_
  refine fp_pr rfl rfl 250 rfl (by omega) (by rw [gNew_o _ _ _ _ (by omega)]; exact ((gM28_k).trans hk)) rfl (by omega) ?_
  refine fp_G (G' := gM29 G) rfl ?_
  refine fp_aload rfl rfl 251 rfl rfl ?_
  refine fp_sipush rfl rfl 254 rfl ?_
  refine fp_na rfl rfl 256 rfl 243 rfl (okl_2n (by omega)) (oks_1 (by omega)) 2160 (by decide) (by decide) (by decide) (Or.inr rfl) ?_
  refine fp_pr rfl rfl 259 rfl (by omega) (by rw [gNew_o _ _ _ _ (by omega)]; exact ((gM29_k).trans hk)) rfl (by omega) ?_
  refine fp_G (G' := gM30 G) rfl ?_
  refine fp_aload rfl rfl 260 rfl rfl ?_
  refine fp_sipush rfl rfl 263 rfl ?_
  refine fp_na rfl rfl 265 rfl 244 rfl (okl_2n (by omega)) (oks_1 (by omega)) 2160 (by decide) (by decide) (by decide) (Or.inl rfl) ?_
  refine fp_pr rfl rfl 268 rfl (by omega) (by rw [gNew_o _ _ _ _ (by omega)]; exact ((gM30_k).trans hk)) rfl (by omega) ?_
  refine fp_G (G' := gM31 G) rfl ?_
  refine fp_aload rfl rfl 269 rfl rfl ?_
  refine fp_sipush rfl rfl 272 rfl ?_
  refine fp_na rfl rfl 274 rfl 245 rfl (okl_2n (by omega)) (oks_1 (by omega)) 32400 (by decide) (by decide) (by decide) (Or.inl rfl) ?_
  refine fp_pr rfl rfl 277 rfl (by omega) (by rw [gNew_o _ _ _ _ (by omega)]; exact ((gM31_k).trans hk)) rfl (by omega) ?_
  refine fp_G (G' := gM32 G) rfl ?_
  refine fp_aload rfl rfl 278 rfl rfl ?_
  refine fp_sipush rfl rfl 281 rfl ?_
  refine fp_na rfl rfl 283 rfl 246 rfl (okl_2n (by omega)) (oks_1 (by omega)) 10800 (by decide) (by decide) (by decide) (Or.inl rfl) ?_
  refine fp_pr rfl rfl 286 rfl (by omega) (by rw [gNew_o _ _ _ _ (by omega)]; exact ((gM32_k).trans hk)) rfl (by omega) ?_
  refine fp_G (G' := gM33 G) rfl ?_
  refine fp_aload rfl rfl 287 rfl rfl ?_
  refine fp_sipush rfl rfl 290 rfl ?_
  refine fp_na rfl rfl 292 rfl 247 rfl (okl_2n (by omega)) (oks_1 (by omega)) 12960 (by decide) (by decide) (by decide) (Or.inl rfl) ?_
  refine fp_pr rfl rfl 295 rfl (by omega) (by rw [gNew_o _ _ _ _ (by omega)]; exact ((gM33_k).trans hk)) rfl (by omega) ?_
  refine fp_G (G' := gM34 G) rfl ?_
  refine fp_aload rfl rfl 296 rfl rfl ?_
  refine fp_iconst rfl rfl 297 rfl ?_
  refine fp_na rfl rfl 299 rfl 248 rfl (okl_2n (by omega)) (oks_1 (by omega)) 4 (by decide) (by decide) (by decide) (Or.inl rfl) ?_
  refine fp_pr rfl rfl 302 rfl (by omega) (by rw [gNew_o _ _ _ _ (by omega)]; exact ((gM34_k).trans hk)) rfl (by omega) ?_
  refine fp_G (G' := gM35 G) rfl ?_
  refine fp_aload rfl rfl 303 rfl rfl ?_
  refine fp_iconst rfl rfl 304 rfl ?_
  refine fp_na rfl rfl 306 rfl 249 rfl (okl_2n (by omega)) (oks_1 (by omega)) 4 (by decide) (by decide) (by decide) (Or.inl rfl) ?_
  refine fp_pr rfl rfl 309 rfl (by omega) (by rw [gNew_o _ _ _ _ (by omega)]; exact ((gM35_k).trans hk)) rfl (by omega) ?_
  refine fp_G (G' := gM36 G) rfl ?_
  refine fp_aload rfl rfl 310 rfl rfl ?_
  refine fp_sipush rfl rfl 313 rfl ?_
  refine fp_na rfl rfl 315 rfl 250 rfl (okl_2n (by omega)) (oks_1 (by omega)) 320 (by decide) (by decide) (by decide) (Or.inl rfl) ?_
  refine fp_pr rfl rfl 318 rfl (by omega) (by rw [gNew_o _ _ _ _ (by omega)]; exact ((gM36_k).trans hk)) rfl (by omega) ?_
  refine fp_G (G' := gM37 G) rfl ?_
  refine fp_aload rfl rfl 319 rfl rfl ?_
  refine fp_iconst rfl rfl 320 rfl ?_
  refine fp_pi rfl rfl 323 rfl (by omega) ((gM37_k).trans hk) rfl ?_
  refine fp_aload rfl rfl 324 rfl rfl ?_
  refine fp_iconst rfl rfl 325 rfl ?_
  refine fp_na rfl rfl 327 rfl 251 rfl (okl_2n (by omega)) (oks_1 (by omega)) 3 (by decide) (by decide) (by decide) (Or.inl rfl) ?_
  refine fp_pr rfl rfl 330 rfl (by omega) (by rw [gNew_o _ _ _ _ (by omega)]; exact ((gM37_k).trans hk)) rfl (by omega) ?_
  refine fp_G (G' := gM38 G) rfl ?_
  refine fp_aload rfl rfl 331 rfl rfl ?_
  refine fp_bipush rfl rfl 333 rfl ?_
  refine fp_na rfl rfl 335 rfl 252 rfl (okl_2n (by omega)) (oks_1 (by omega)) 16 (by decide) (by decide) (by decide) (Or.inl rfl) ?_
  refine fp_pr rfl rfl 338 rfl (by omega) (by rw [gNew_o _ _ _ _ (by omega)]; exact ((gM38_k).trans hk)) rfl (by omega) ?_
  refine fp_G (G' := gM39 G) rfl ?_
  refine fp_aload rfl rfl 339 rfl rfl ?_
  refine fp_bipush rfl rfl 341 rfl ?_
  refine fp_na rfl rfl 343 rfl 253 rfl (okl_2n (by omega)) (oks_1 (by omega)) 16 (by decide) (by decide) (by decide) (Or.inl rfl) ?_
  refine fp_pr rfl rfl 346 rfl (by omega) (by rw [gNew_o _ _ _ _ (by omega)]; exact ((gM39_k).trans hk)) rfl (by omega) ?_
  refine fp_G (G' := gM40 G) rfl ?_
  refine fp_aload rfl rfl 347 rfl rfl ?_
  refine fp_sipush rfl rfl 350 rfl ?_
  refine fp_na rfl rfl 352 rfl 254 rfl (okl_2n (by omega)) (oks_1 (by omega)) 1800 (by decide) (by decide) (by decide) (Or.inl rfl) ?_
  refine fp_pr rfl rfl 355 rfl (by omega) (by rw [gNew_o _ _ _ _ (by omega)]; exact ((gM40_k).trans hk)) rfl (by omega) ?_
  refine fp_G (G' := gM41 G) rfl ?_
  refine fp_aload rfl rfl 356 rfl rfl ?_
  refine fp_sipush rfl rfl 359 rfl ?_
  refine fp_na rfl rfl 361 rfl 255 rfl (okl_2n (by omega)) (oks_1 (by omega)) 1800 (by decide) (by decide) (by decide) (Or.inl rfl) ?_
  refine fp_pr rfl rfl 364 rfl (by omega) (by rw [gNew_o _ _ _ _ (by omega)]; exact ((gM41_k).trans hk)) rfl (by omega) ?_
  refine fp_G (G' := gM42 G) rfl ?_
  refine fp_aload rfl rfl 365 rfl rfl ?_
  refine fp_bipush rfl rfl 367 rfl ?_
  refine fp_na rfl rfl 369 rfl 256 rfl (okl_2n (by omega)) (oks_1 (by omega)) 8 (by decide) (by decide) (by decide) (Or.inl rfl) ?_
  refine fp_pr rfl rfl 372 rfl (by omega) (by rw [gNew_o _ _ _ _ (by omega)]; exact ((gM42_k).trans hk)) rfl (by omega) ?_
  refine fp_G (G' := gM43 G) rfl ?_
  refine fp_aload rfl rfl 373 rfl rfl ?_
  refine fp_iconst rfl rfl 374 rfl ?_
  refine fp_na rfl rfl 376 rfl 257 rfl (okl_2n (by omega)) (oks_1 (by omega)) 4 (by decide) (by decide) (by decide) (Or.inl rfl) ?_
  refine fp_pr rfl rfl 379 rfl (by omega) (by rw [gNew_o _ _ _ _ (by omega)]; exact ((gM43_k).trans hk)) rfl (by omega) ?_
  refine fp_G (G' := gM44 G) rfl ?_
  refine fp_aload rfl rfl 380 rfl rfl ?_
  refine fp_sipush rfl rfl 383 rfl ?_
  refine fp_na rfl rfl 385 rfl 258 rfl (okl_2n (by omega)) (oks_1 (by omega)) 1280 (by decide) (by decide) (by decide) (Or.inl rfl) ?_
  refine fp_pr rfl rfl 388 rfl (by omega) (by rw [gNew_o _ _ _ _ (by omega)]; exact ((gM44_k).trans hk)) rfl (by omega) ?_
  refine fp_G (G' := gM45 G) rfl ?_
  refine fp_aload rfl rfl 389 rfl rfl ?_
  refine fp_sipush rfl rfl 392 rfl ?_
  refine fp_na rfl rfl 394 rfl 259 rfl (okl_2n (by omega)) (oks_1 (by omega)) 320 (by decide) (by decide) (by decide) (Or.inr rfl) ?_
  refine fp_pr rfl rfl 397 rfl (by omega) (by rw [gNew_o _ _ _ _ (by omega)]; exact ((gM45_k).trans hk)) rfl (by omega) ?_
  refine fp_G (G' := gM46 G) rfl ?_
  refine fp_aload rfl rfl 398 rfl rfl ?_
  refine fp_sipush rfl rfl 401 rfl ?_
  refine fp_na rfl rfl 403 rfl 260 rfl (okl_2n (by omega)) (oks_1 (by omega)) 320 (by decide) (by decide) (by decide) (Or.inl rfl) ?_
  refine fp_pr rfl rfl 406 rfl (by omega) (by rw [gNew_o _ _ _ _ (by omega)]; exact ((gM46_k).trans hk)) rfl (by omega) ?_
  refine fp_G (G' := gM47 G) rfl ?_
  refine fp_iconst rfl rfl 407 rfl ?_
  refine fp_istore rfl rfl 408 rfl (by simp) ?_
  have k9 : (gM47 G 212).1 = 9 := gM47_k.trans hk
  have kw : (gM47 G 217).1 = 10 := by rw [gMc_217]
  have lw : (gM47 G 217).2.1 = 320 := by rw [gMc_217]
  have kl : (gM47 G 247).1 = 10 := by rw [gMc_247]
  have ll : (gM47 G 247).2.1 = 4 := by rw [gMc_247]
  have kh : (gM47 G 248).1 = 10 := by rw [gMc_248]
  have lh : (gM47 G 248).2.1 = 4 := by rw [gMc_248]
  have loopB : ∀ (M1 : Nat), M1 ≤ M + 105561 → ∀ (J0 : Mm) (d i : Nat) (x : Int32) (J : Mm), i + d = 4 → x = Int32.ofInt (i : Int) → (∀ c, c ≠ 247 → c ≠ 248 → J c = J0 c) → (∀ f, f < i → J 247 f = -2147483648) → (∀ f, f < i → J 248 f = 2147483647) → (∀ J : Mm, (∀ c, c ≠ 247 → c ≠ 248 → J c = J0 c) → (∀ f, f < 4 → J 247 f = -2147483648) → (∀ f, f < 4 → J 248 f = 2147483647) → (∀ c, c < 212 → J c = I c) ∧ FcR J) → Fp none 134 430 [some (.ref 212), some (.int x)] [] (260, M1, gM47 G, J) (fun rv σ' => rv = none ∧ ∃ (M' : Nat) (I' : Mm), σ' = (260, M', gM47 G, I') ∧ M' ≤ M + 105561 ∧ (∀ c, c < 212 → I' c = I c) ∧ FcR I') := by
    intro M1 hM1 J0 d
    induction d with
    | zero =>
      intro i x J hi hx f1 f2 f3 hh
      refine fp_iload rfl rfl 431 rfl rfl ?_
      refine fp_iconst rfl rfl 432 rfl ?_
      refine fp_ge1 rfl rfl ((le_n (j := 4) hx (by omega) rfl (by omega)).mpr (by omega)) ?_
      have := hh J f1 (fun f hf => f2 f (by omega)) (fun f hf => f3 f (by omega))
      exact fp_ret rfl rfl rfl ⟨rfl, M1, J, rfl, hM1, this.1, this.2⟩
    | succ d ih =>
      intro i x J hi hx f1 f2 f3 hh
      refine fp_iload rfl rfl 431 rfl rfl ?_
      refine fp_iconst rfl rfl 432 rfl ?_
      refine fp_ge0 rfl rfl 435 rfl (fun z => absurd ((le_n (j := 4) hx (by omega) rfl (by omega)).mp z) (by omega)) ?_
      refine fp_aload rfl rfl 436 rfl rfl ?_
      refine fp_gr rfl rfl 439 rfl (by omega) k9 rfl gMr_34 ?_
      refine fp_iload rfl rfl 440 rfl rfl ?_
      refine fp_ldc rfl rfl 442 rfl ?_
      refine fp_ias rfl rfl 443 rfl (by omega) kl (by rw [ll]; exact ibd_n hx (by omega) (by omega)) ?_
      rw [(lit_n hx (by omega)).1]
      refine fp_aload rfl rfl 444 rfl rfl ?_
      refine fp_gr rfl rfl 447 rfl (by omega) k9 rfl gMr_35 ?_
      refine fp_iload rfl rfl 448 rfl rfl ?_
      refine fp_aload rfl rfl 449 rfl rfl ?_
      refine fp_gr rfl rfl 452 rfl (by omega) k9 rfl gMr_34 ?_
      refine fp_iload rfl rfl 453 rfl rfl ?_
      refine fp_ial rfl rfl 454 rfl (by omega) kl (by rw [ll]; exact ibd_n hx (by omega) (by omega)) ?_
      have e4 : iW J 247 i (-2147483648) 247 (x.toNatClampNeg) = -2147483648 := by rw [(lit_n hx (by omega)).1, iW_s]; exact if_pos rfl
      rw [e4]
      refine fp_iconst rfl rfl 455 rfl ?_
      refine fp_ixor rfl rfl 456 rfl ?_
      refine fp_ias rfl rfl 457 rfl (by omega) kh (by rw [lh]; exact ibd_n hx (by omega) (by omega)) ?_
      refine fp_iinc rfl rfl 460 rfl rfl ?_
      refine fp_goto rfl rfl ?_
      rw [(lit_n hx (by omega)).1]
      refine ih (i + 1) (x + 1) _ (by omega) (inc_n hx) (fun c c1 c2 => by rw [iW_o _ _ _ _ c2, iW_o _ _ _ _ c1, f1 c c1 c2]) (fun f hf => ?_) (fun f hf => ?_) hh
      · rw [iW_o _ _ _ _ (by omega), iW_s]
        by_cases c : f = i
        · rw [c]; exact if_pos rfl
        · exact (if_neg c).trans (f2 f (by omega))
      · rw [iW_s]
        by_cases c : f = i
        · rw [c]; exact (if_pos rfl).trans rfl
        · refine (if_neg c).trans ?_
          rw [iW_o _ _ _ _ (by omega)]
          exact f3 f (by omega)
  have loopA : ∀ (M1 : Nat), M1 ≤ M + 105561 → ∀ (J0 : Mm) (d i : Nat) (x : Int32) (J : Mm), i + d = 320 → x = Int32.ofInt (i : Int) → (∀ c, c ≠ 217 → J c = J0 c) → (∀ p, p < i → J 217 p = -1) → (∀ J : Mm, (∀ c, c ≠ 217 → c ≠ 247 → c ≠ 248 → J c = J0 c) → (∀ p, p < 320 → J 217 p = -1) → (∀ f, f < 4 → J 247 f = -2147483648) → (∀ f, f < 4 → J 248 f = 2147483647) → (∀ c, c < 212 → J c = I c) ∧ FcR J) → Fp none 134 408 [some (.ref 212), some (.int x)] [] (260, M1, gM47 G, J) (fun rv σ' => rv = none ∧ ∃ (M' : Nat) (I' : Mm), σ' = (260, M', gM47 G, I') ∧ M' ≤ M + 105561 ∧ (∀ c, c < 212 → I' c = I c) ∧ FcR I') := by
    intro M1 hM1 J0 d
    induction d with
    | zero =>
      intro i x J hi hx f1 f2 hh
      refine fp_iload rfl rfl 409 rfl rfl ?_
      refine fp_sipush rfl rfl 412 rfl ?_
      refine fp_ge1 rfl rfl ((le_n (j := 320) hx (by omega) rfl (by omega)).mpr (by omega)) ?_
      refine fp_iconst rfl rfl 429 rfl ?_
      refine fp_istore rfl rfl 430 rfl (by simp) ?_
      refine loopB M1 hM1 J 4 0 0 J (by omega) rfl (fun _ _ _ => rfl) (fun f hf => absurd hf (by omega)) (fun f hf => absurd hf (by omega)) (fun J' g1 g2 g3 => ?_)
      exact hh J' (fun c c1 c2 c3 => by rw [g1 c c2 c3, f1 c c1]) (fun p hp => by rw [g1 217 (by omega) (by omega)]; exact f2 p (by omega)) g2 g3
    | succ d ih =>
      intro i x J hi hx f1 f2 hh
      refine fp_iload rfl rfl 409 rfl rfl ?_
      refine fp_sipush rfl rfl 412 rfl ?_
      refine fp_ge0 rfl rfl 415 rfl (fun z => absurd ((le_n (j := 320) hx (by omega) rfl (by omega)).mp z) (by omega)) ?_
      refine fp_aload rfl rfl 416 rfl rfl ?_
      refine fp_gr rfl rfl 419 rfl (by omega) k9 rfl gMr_4 ?_
      refine fp_iload rfl rfl 420 rfl rfl ?_
      refine fp_iconst rfl rfl 421 rfl ?_
      refine fp_ias rfl rfl 422 rfl (by omega) kw (by rw [lw]; exact ibd_n hx (by omega) (by omega)) ?_
      refine fp_iinc rfl rfl 425 rfl rfl ?_
      refine fp_goto rfl rfl ?_
      rw [(lit_n hx (by omega)).1]
      refine ih (i + 1) (x + 1) _ (by omega) (inc_n hx) (fun c c1 => by rw [iW_o _ _ _ _ c1, f1 c c1]) (fun p hp => ?_) hh
      rw [iW_s]
      by_cases c : p = i
      · rw [c]; exact if_pos rfl
      · exact (if_neg c).trans (f2 p (by omega))
  refine loopA _ (by omega) _ 320 0 0 _ (by omega) rfl (fun _ _ => rfl) (fun p hp => absurd hp (by omega)) (fun J g1 g2 g3 g4 => ⟨fun c hc => ?_, ⟨?_, ?_, ?_, ?_, ?_, ?_, ?_⟩, g2, ⟨?_, ?_, ?_⟩, g3, g4⟩)
  · rw [g1 c (by omega) (by omega) (by omega), iNew_o _ _ (by omega), iNew_o _ _ (by omega), iNew_o _ _ (by omega), iNew_o _ _ (by omega), iNew_o _ _ (by omega), iNew_o _ _ (by omega), iNew_o _ _ (by omega), iNew_o _ _ (by omega), iNew_o _ _ (by omega), iNew_o _ _ (by omega), iW_o _ _ _ _ (by omega), iNew_o _ _ (by omega), iNew_o _ _ (by omega), iNew_o _ _ (by omega), iNew_o _ _ (by omega), iNew_o _ _ (by omega), iNew_o _ _ (by omega), iNew_o _ _ (by omega), iNew_o _ _ (by omega), iNew_o _ _ (by omega), iNew_o _ _ (by omega), iNew_o _ _ (by omega), iNew_o _ _ (by omega), iNew_o _ _ (by omega), iNew_o _ _ (by omega), iNew_o _ _ (by omega), iNew_o _ _ (by omega), iNew_o _ _ (by omega), iNew_o _ _ (by omega), iNew_o _ _ (by omega), iNew_o _ _ (by omega), iNew_o _ _ (by omega), iNew_o _ _ (by omega), iNew_o _ _ (by omega), iNew_o _ _ (by omega), iNew_o _ _ (by omega), iNew_o _ _ (by omega), iNew_o _ _ (by omega), iNew_o _ _ (by omega), iNew_o _ _ (by omega), iNew_o _ _ (by omega), iNew_o _ _ (by omega), iNew_o _ _ (by omega), iNew_o _ _ (by omega), iNew_o _ _ (by omega), iNew_o _ _ (by omega), iNew_o _ _ (by omega), iNew_o _ _ (by omega)]
  · rw [g1 213 (by omega) (by omega) (by omega), iNew_o _ _ (by omega), iNew_o _ _ (by omega), iNew_o _ _ (by omega), iNew_o _ _ (by omega), iNew_o _ _ (by omega), iNew_o _ _ (by omega), iNew_o _ _ (by omega), iNew_o _ _ (by omega), iNew_o _ _ (by omega), iNew_o _ _ (by omega), iW_o _ _ _ _ (by omega), iNew_o _ _ (by omega), iNew_o _ _ (by omega), iNew_o _ _ (by omega), iNew_o _ _ (by omega), iNew_o _ _ (by omega), iNew_o _ _ (by omega), iNew_o _ _ (by omega), iNew_o _ _ (by omega), iNew_o _ _ (by omega), iNew_o _ _ (by omega), iNew_o _ _ (by omega), iNew_o _ _ (by omega), iNew_o _ _ (by omega), iNew_o _ _ (by omega), iNew_o _ _ (by omega), iNew_o _ _ (by omega), iNew_o _ _ (by omega), iNew_o _ _ (by omega), iNew_o _ _ (by omega), iNew_o _ _ (by omega), iNew_o _ _ (by omega), iNew_o _ _ (by omega), iNew_o _ _ (by omega), iNew_o _ _ (by omega), iNew_o _ _ (by omega), iNew_o _ _ (by omega), iNew_o _ _ (by omega), iNew_o _ _ (by omega), iNew_o _ _ (by omega), iNew_o _ _ (by omega), iNew_o _ _ (by omega), iNew_o _ _ (by omega), iNew_o _ _ (by omega), iNew_o _ _ (by omega), iNew_o _ _ (by omega), iNew_o _ _ (by omega), iNew_s]
  · rw [g1 214 (by omega) (by omega) (by omega), iNew_o _ _ (by omega), iNew_o _ _ (by omega), iNew_o _ _ (by omega), iNew_o _ _ (by omega), iNew_o _ _ (by omega), iNew_o _ _ (by omega), iNew_o _ _ (by omega), iNew_o _ _ (by omega), iNew_o _ _ (by omega), iNew_o _ _ (by omega), iW_o _ _ _ _ (by omega), iNew_o _ _ (by omega), iNew_o _ _ (by omega), iNew_o _ _ (by omega), iNew_o _ _ (by omega), iNew_o _ _ (by omega), iNew_o _ _ (by omega), iNew_o _ _ (by omega), iNew_o _ _ (by omega), iNew_o _ _ (by omega), iNew_o _ _ (by omega), iNew_o _ _ (by omega), iNew_o _ _ (by omega), iNew_o _ _ (by omega), iNew_o _ _ (by omega), iNew_o _ _ (by omega), iNew_o _ _ (by omega), iNew_o _ _ (by omega), iNew_o _ _ (by omega), iNew_o _ _ (by omega), iNew_o _ _ (by omega), iNew_o _ _ (by omega), iNew_o _ _ (by omega), iNew_o _ _ (by omega), iNew_o _ _ (by omega), iNew_o _ _ (by omega), iNew_o _ _ (by omega), iNew_o _ _ (by omega), iNew_o _ _ (by omega), iNew_o _ _ (by omega), iNew_o _ _ (by omega), iNew_o _ _ (by omega), iNew_o _ _ (by omega), iNew_o _ _ (by omega), iNew_o _ _ (by omega), iNew_o _ _ (by omega), iNew_s]
  · rw [g1 215 (by omega) (by omega) (by omega), iNew_o _ _ (by omega), iNew_o _ _ (by omega), iNew_o _ _ (by omega), iNew_o _ _ (by omega), iNew_o _ _ (by omega), iNew_o _ _ (by omega), iNew_o _ _ (by omega), iNew_o _ _ (by omega), iNew_o _ _ (by omega), iNew_o _ _ (by omega), iW_o _ _ _ _ (by omega), iNew_o _ _ (by omega), iNew_o _ _ (by omega), iNew_o _ _ (by omega), iNew_o _ _ (by omega), iNew_o _ _ (by omega), iNew_o _ _ (by omega), iNew_o _ _ (by omega), iNew_o _ _ (by omega), iNew_o _ _ (by omega), iNew_o _ _ (by omega), iNew_o _ _ (by omega), iNew_o _ _ (by omega), iNew_o _ _ (by omega), iNew_o _ _ (by omega), iNew_o _ _ (by omega), iNew_o _ _ (by omega), iNew_o _ _ (by omega), iNew_o _ _ (by omega), iNew_o _ _ (by omega), iNew_o _ _ (by omega), iNew_o _ _ (by omega), iNew_o _ _ (by omega), iNew_o _ _ (by omega), iNew_o _ _ (by omega), iNew_o _ _ (by omega), iNew_o _ _ (by omega), iNew_o _ _ (by omega), iNew_o _ _ (by omega), iNew_o _ _ (by omega), iNew_o _ _ (by omega), iNew_o _ _ (by omega), iNew_o _ _ (by omega), iNew_o _ _ (by omega), iNew_o _ _ (by omega), iNew_s]
  · rw [g1 216 (by omega) (by omega) (by omega), iNew_o _ _ (by omega), iNew_o _ _ (by omega), iNew_o _ _ (by omega), iNew_o _ _ (by omega), iNew_o _ _ (by omega), iNew_o _ _ (by omega), iNew_o _ _ (by omega), iNew_o _ _ (by omega), iNew_o _ _ (by omega), iNew_o _ _ (by omega), iW_o _ _ _ _ (by omega), iNew_o _ _ (by omega), iNew_o _ _ (by omega), iNew_o _ _ (by omega), iNew_o _ _ (by omega), iNew_o _ _ (by omega), iNew_o _ _ (by omega), iNew_o _ _ (by omega), iNew_o _ _ (by omega), iNew_o _ _ (by omega), iNew_o _ _ (by omega), iNew_o _ _ (by omega), iNew_o _ _ (by omega), iNew_o _ _ (by omega), iNew_o _ _ (by omega), iNew_o _ _ (by omega), iNew_o _ _ (by omega), iNew_o _ _ (by omega), iNew_o _ _ (by omega), iNew_o _ _ (by omega), iNew_o _ _ (by omega), iNew_o _ _ (by omega), iNew_o _ _ (by omega), iNew_o _ _ (by omega), iNew_o _ _ (by omega), iNew_o _ _ (by omega), iNew_o _ _ (by omega), iNew_o _ _ (by omega), iNew_o _ _ (by omega), iNew_o _ _ (by omega), iNew_o _ _ (by omega), iNew_o _ _ (by omega), iNew_o _ _ (by omega), iNew_o _ _ (by omega), iNew_s]
  · rw [g1 218 (by omega) (by omega) (by omega), iNew_o _ _ (by omega), iNew_o _ _ (by omega), iNew_o _ _ (by omega), iNew_o _ _ (by omega), iNew_o _ _ (by omega), iNew_o _ _ (by omega), iNew_o _ _ (by omega), iNew_o _ _ (by omega), iNew_o _ _ (by omega), iNew_o _ _ (by omega), iW_o _ _ _ _ (by omega), iNew_o _ _ (by omega), iNew_o _ _ (by omega), iNew_o _ _ (by omega), iNew_o _ _ (by omega), iNew_o _ _ (by omega), iNew_o _ _ (by omega), iNew_o _ _ (by omega), iNew_o _ _ (by omega), iNew_o _ _ (by omega), iNew_o _ _ (by omega), iNew_o _ _ (by omega), iNew_o _ _ (by omega), iNew_o _ _ (by omega), iNew_o _ _ (by omega), iNew_o _ _ (by omega), iNew_o _ _ (by omega), iNew_o _ _ (by omega), iNew_o _ _ (by omega), iNew_o _ _ (by omega), iNew_o _ _ (by omega), iNew_o _ _ (by omega), iNew_o _ _ (by omega), iNew_o _ _ (by omega), iNew_o _ _ (by omega), iNew_o _ _ (by omega), iNew_o _ _ (by omega), iNew_o _ _ (by omega), iNew_o _ _ (by omega), iNew_o _ _ (by omega), iNew_o _ _ (by omega), iNew_o _ _ (by omega), iNew_s]
  · rw [g1 224 (by omega) (by omega) (by omega), iNew_o _ _ (by omega), iNew_o _ _ (by omega), iNew_o _ _ (by omega), iNew_o _ _ (by omega), iNew_o _ _ (by omega), iNew_o _ _ (by omega), iNew_o _ _ (by omega), iNew_o _ _ (by omega), iNew_o _ _ (by omega), iNew_o _ _ (by omega), iW_o _ _ _ _ (by omega), iNew_o _ _ (by omega), iNew_o _ _ (by omega), iNew_o _ _ (by omega), iNew_o _ _ (by omega), iNew_o _ _ (by omega), iNew_o _ _ (by omega), iNew_o _ _ (by omega), iNew_o _ _ (by omega), iNew_o _ _ (by omega), iNew_o _ _ (by omega), iNew_o _ _ (by omega), iNew_o _ _ (by omega), iNew_o _ _ (by omega), iNew_o _ _ (by omega), iNew_o _ _ (by omega), iNew_o _ _ (by omega), iNew_o _ _ (by omega), iNew_o _ _ (by omega), iNew_o _ _ (by omega), iNew_o _ _ (by omega), iNew_o _ _ (by omega), iNew_o _ _ (by omega), iNew_o _ _ (by omega), iNew_o _ _ (by omega), iNew_o _ _ (by omega), iNew_s]
  · rw [g1 243 (by omega) (by omega) (by omega), iNew_o _ _ (by omega), iNew_o _ _ (by omega), iNew_o _ _ (by omega), iNew_o _ _ (by omega), iNew_o _ _ (by omega), iNew_o _ _ (by omega), iNew_o _ _ (by omega), iNew_o _ _ (by omega), iNew_o _ _ (by omega), iNew_o _ _ (by omega), iW_o _ _ _ _ (by omega), iNew_o _ _ (by omega), iNew_o _ _ (by omega), iNew_o _ _ (by omega), iNew_o _ _ (by omega), iNew_o _ _ (by omega), iNew_o _ _ (by omega), iNew_s]
  · rw [g1 212 (by omega) (by omega) (by omega), iNew_o _ _ (by omega), iNew_o _ _ (by omega), iNew_o _ _ (by omega), iNew_o _ _ (by omega), iNew_o _ _ (by omega), iNew_o _ _ (by omega), iNew_o _ _ (by omega), iNew_o _ _ (by omega), iNew_o _ _ (by omega), iNew_o _ _ (by omega), iW_s, iNew_o _ _ (by omega), iNew_o _ _ (by omega), iNew_o _ _ (by omega), iNew_o _ _ (by omega), iNew_o _ _ (by omega), iNew_o _ _ (by omega), iNew_o _ _ (by omega), iNew_o _ _ (by omega), iNew_o _ _ (by omega), iNew_o _ _ (by omega), iNew_o _ _ (by omega), iNew_o _ _ (by omega), iNew_o _ _ (by omega), iNew_o _ _ (by omega), iNew_o _ _ (by omega), iNew_o _ _ (by omega), iNew_o _ _ (by omega), iNew_o _ _ (by omega), iNew_o _ _ (by omega), iNew_o _ _ (by omega), iNew_o _ _ (by omega), iNew_o _ _ (by omega), iNew_o _ _ (by omega), iNew_o _ _ (by omega), iNew_o _ _ (by omega), iNew_o _ _ (by omega), iNew_o _ _ (by omega), iNew_o _ _ (by omega), iNew_o _ _ (by omega), iNew_o _ _ (by omega), iNew_o _ _ (by omega), iNew_o _ _ (by omega), iNew_o _ _ (by omega), iNew_o _ _ (by omega), iNew_o _ _ (by omega), iNew_o _ _ (by omega), iNew_o _ _ (by omega), hz]; rfl
  · rw [g1 212 (by omega) (by omega) (by omega), iNew_o _ _ (by omega), iNew_o _ _ (by omega), iNew_o _ _ (by omega), iNew_o _ _ (by omega), iNew_o _ _ (by omega), iNew_o _ _ (by omega), iNew_o _ _ (by omega), iNew_o _ _ (by omega), iNew_o _ _ (by omega), iNew_o _ _ (by omega), iW_s, iNew_o _ _ (by omega), iNew_o _ _ (by omega), iNew_o _ _ (by omega), iNew_o _ _ (by omega), iNew_o _ _ (by omega), iNew_o _ _ (by omega), iNew_o _ _ (by omega), iNew_o _ _ (by omega), iNew_o _ _ (by omega), iNew_o _ _ (by omega), iNew_o _ _ (by omega), iNew_o _ _ (by omega), iNew_o _ _ (by omega), iNew_o _ _ (by omega), iNew_o _ _ (by omega), iNew_o _ _ (by omega), iNew_o _ _ (by omega), iNew_o _ _ (by omega), iNew_o _ _ (by omega), iNew_o _ _ (by omega), iNew_o _ _ (by omega), iNew_o _ _ (by omega), iNew_o _ _ (by omega), iNew_o _ _ (by omega), iNew_o _ _ (by omega), iNew_o _ _ (by omega), iNew_o _ _ (by omega), iNew_o _ _ (by omega), iNew_o _ _ (by omega), iNew_o _ _ (by omega), iNew_o _ _ (by omega), iNew_o _ _ (by omega), iNew_o _ _ (by omega), iNew_o _ _ (by omega), iNew_o _ _ (by omega), iNew_o _ _ (by omega), iNew_o _ _ (by omega)]; rfl
  · rw [g1 212 (by omega) (by omega) (by omega), iNew_o _ _ (by omega), iNew_o _ _ (by omega), iNew_o _ _ (by omega), iNew_o _ _ (by omega), iNew_o _ _ (by omega), iNew_o _ _ (by omega), iNew_o _ _ (by omega), iNew_o _ _ (by omega), iNew_o _ _ (by omega), iNew_o _ _ (by omega), iW_s, iNew_o _ _ (by omega), iNew_o _ _ (by omega), iNew_o _ _ (by omega), iNew_o _ _ (by omega), iNew_o _ _ (by omega), iNew_o _ _ (by omega), iNew_o _ _ (by omega), iNew_o _ _ (by omega), iNew_o _ _ (by omega), iNew_o _ _ (by omega), iNew_o _ _ (by omega), iNew_o _ _ (by omega), iNew_o _ _ (by omega), iNew_o _ _ (by omega), iNew_o _ _ (by omega), iNew_o _ _ (by omega), iNew_o _ _ (by omega), iNew_o _ _ (by omega), iNew_o _ _ (by omega), iNew_o _ _ (by omega), iNew_o _ _ (by omega), iNew_o _ _ (by omega), iNew_o _ _ (by omega), iNew_o _ _ (by omega), iNew_o _ _ (by omega), iNew_o _ _ (by omega), iNew_o _ _ (by omega), iNew_o _ _ (by omega), iNew_o _ _ (by omega), iNew_o _ _ (by omega), iNew_o _ _ (by omega), iNew_o _ _ (by omega), iNew_o _ _ (by omega), iNew_o _ _ (by omega), iNew_o _ _ (by omega), iNew_o _ _ (by omega), iNew_o _ _ (by omega), hz]; rfl
