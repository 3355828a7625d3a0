def LYX : List (Nat × Nat × Nat) := [(1, 0, 2), (1, 1, 4), (1, 5, 49), (1, 6, 56), (1, 7, 63), (1, 8, 240), (1, 9, 241), (1, 10, 242), (1, 11, 243), (1, 13, 244), (1, 14, 250), (1, 15, 255), (2, 0, 3), (4, 0, 5), (4, 7, 10), (5, 0, 6), (5, 1, 7), (5, 2, 8), (5, 3, 9), (11, 3, 12), (11, 4, 13), (11, 6, 14), (11, 7, 15), (11, 8, 16), (11, 9, 17), (11, 11, 18), (11, 12, 19), (11, 13, 20), (11, 14, 25), (20, 0, 21), (20, 1, 22), (20, 2, 23), (20, 3, 24), (25, 0, 26), (25, 1, 27), (25, 2, 28), (25, 3, 29), (30, 3, 31), (30, 4, 32), (30, 6, 33), (30, 7, 34), (30, 8, 35), (30, 9, 36), (30, 11, 37), (30, 12, 38), (30, 13, 39), (30, 14, 44), (39, 0, 40), (39, 1, 41), (39, 2, 42), (39, 3, 43), (44, 0, 45), (44, 1, 46), (44, 2, 47), (44, 3, 48), (49, 1, 50), (49, 2, 51), (49, 3, 52), (49, 4, 53), (49, 5, 54), (49, 6, 55), (56, 1, 57), (56, 2, 58), (56, 3, 59), (56, 4, 60), (56, 5, 61), (56, 6, 62), (63, 0, 64), (64, 0, 65), (64, 1, 72), (64, 2, 79), (64, 3, 86), (64, 4, 93), (64, 5, 100), (64, 6, 107), (64, 7, 114), (64, 8, 121), (64, 9, 128), (64, 10, 135), (64, 11, 142), (64, 12, 149), (64, 13, 156), (64, 14, 163), (64, 15, 170), (64, 16, 177), (64, 17, 184), (64, 18, 191), (64, 19, 198), (64, 20, 205), (64, 21, 212), (64, 22, 219), (64, 23, 226), (64, 24, 233), (65, 1, 66), (65, 2, 67), (65, 3, 68), (65, 4, 69), (65, 5, 70), (65, 6, 71), (72, 1, 73), (72, 2, 74), (72, 3, 75), (72, 4, 76), (72, 5, 77), (72, 6, 78), (79, 1, 80), (79, 2, 81), (79, 3, 82), (79, 4, 83), (79, 5, 84), (79, 6, 85), (86, 1, 87), (86, 2, 88), (86, 3, 89), (86, 4, 90), (86, 5, 91), (86, 6, 92), (93, 1, 94), (93, 2, 95), (93, 3, 96), (93, 4, 97), (93, 5, 98), (93, 6, 99), (100, 1, 101), (100, 2, 102), (100, 3, 103), (100, 4, 104), (100, 5, 105), (100, 6, 106), (107, 1, 108), (107, 2, 109), (107, 3, 110), (107, 4, 111), (107, 5, 112), (107, 6, 113), (114, 1, 115), (114, 2, 116), (114, 3, 117), (114, 4, 118), (114, 5, 119), (114, 6, 120), (121, 1, 122), (121, 2, 123), (121, 3, 124), (121, 4, 125), (121, 5, 126), (121, 6, 127), (128, 1, 129), (128, 2, 130), (128, 3, 131), (128, 4, 132), (128, 5, 133), (128, 6, 134), (135, 1, 136), (135, 2, 137), (135, 3, 138), (135, 4, 139), (135, 5, 140), (135, 6, 141), (142, 1, 143), (142, 2, 144), (142, 3, 145), (142, 4, 146), (142, 5, 147), (142, 6, 148), (149, 1, 150), (149, 2, 151), (149, 3, 152), (149, 4, 153), (149, 5, 154), (149, 6, 155), (156, 1, 157), (156, 2, 158), (156, 3, 159), (156, 4, 160), (156, 5, 161), (156, 6, 162), (163, 1, 164), (163, 2, 165), (163, 3, 166), (163, 4, 167), (163, 5, 168), (163, 6, 169), (170, 1, 171), (170, 2, 172), (170, 3, 173), (170, 4, 174), (170, 5, 175), (170, 6, 176), (177, 1, 178), (177, 2, 179), (177, 3, 180), (177, 4, 181), (177, 5, 182), (177, 6, 183), (184, 1, 185), (184, 2, 186), (184, 3, 187), (184, 4, 188), (184, 5, 189), (184, 6, 190), (191, 1, 192), (191, 2, 193), (191, 3, 194), (191, 4, 195), (191, 5, 196), (191, 6, 197), (198, 1, 199), (198, 2, 200), (198, 3, 201), (198, 4, 202), (198, 5, 203), (198, 6, 204), (205, 1, 206), (205, 2, 207), (205, 3, 208), (205, 4, 209), (205, 5, 210), (205, 6, 211), (212, 1, 213), (212, 2, 214), (212, 3, 215), (212, 4, 216), (212, 5, 217), (212, 6, 218), (219, 1, 220), (219, 2, 221), (219, 3, 222), (219, 4, 223), (219, 5, 224), (219, 6, 225), (226, 1, 227), (226, 2, 228), (226, 3, 229), (226, 4, 230), (226, 5, 231), (226, 6, 232), (233, 1, 234), (233, 2, 235), (233, 3, 236), (233, 4, 237), (233, 5, 238), (233, 6, 239), (240, 0, 275), (240, 1, 282), (240, 2, 289), (244, 0, 245), (244, 1, 246), (244, 3, 247), (244, 4, 248), (244, 5, 249), (250, 0, 251), (250, 1, 252), (250, 2, 253), (250, 3, 254), (255, 1, 256), (255, 2, 257), (255, 3, 266), (255, 4, 267), (255, 6, 268), (255, 7, 269), (255, 8, 270), (255, 9, 271), (255, 10, 272), (255, 11, 273), (255, 12, 274), (257, 0, 258), (257, 1, 259), (257, 2, 260), (257, 3, 261), (257, 4, 262), (257, 5, 263), (257, 6, 264), (257, 7, 265), (275, 1, 276), (275, 2, 277), (275, 3, 278), (275, 4, 279), (275, 5, 280), (275, 6, 281), (282, 1, 283), (282, 2, 284), (282, 3, 285), (282, 4, 286), (282, 5, 287), (282, 6, 288), (289, 1, 290), (289, 2, 291), (289, 3, 292), (289, 4, 293), (289, 5, 294), (289, 6, 295)]
def lyX (G : Nat → Nat → Nat) : Prop := ∀ e ∈ LYX, G e.1 e.2.1 = e.2.2
def LYM : List (Nat × Nat × Nat) := [(296, 1, 297), (296, 3, 298), (296, 5, 299), (296, 6, 300), (296, 7, 301), (296, 8, 302), (296, 9, 303), (296, 21, 304), (296, 22, 305), (296, 23, 306), (296, 24, 307), (296, 25, 308), (296, 26, 309), (296, 27, 310), (296, 28, 311), (296, 29, 312), (296, 30, 313), (296, 31, 314), (296, 32, 315), (296, 33, 316), (296, 34, 317), (296, 35, 318), (296, 36, 319), (296, 37, 320), (296, 39, 321), (296, 40, 322), (296, 41, 323), (296, 42, 324), (296, 43, 325), (296, 45, 326), (296, 46, 327), (296, 47, 328), (296, 49, 329), (296, 50, 330), (296, 52, 331), (296, 53, 332), (296, 54, 333), (296, 56, 334), (296, 57, 335), (296, 58, 336), (296, 59, 337), (296, 61, 338), (296, 62, 339), (296, 64, 340), (296, 65, 341), (296, 66, 342), (296, 67, 343), (296, 69, 344), (296, 70, 345), (296, 71, 346), (296, 72, 347), (296, 73, 348), (296, 74, 349), (296, 77, 350), (296, 78, 351), (296, 79, 352), (296, 80, 353)]
def lyM (G : Nat → Nat → Nat) : Prop := ∀ e ∈ LYM, G e.1 e.2.1 = e.2.2
abbrev MI : Type := Nat → Nat → Int
theorem lyX_put3 {G : Nat → Nat → Nat} {v : Nat} (h : lyX G) : lyX (up2 G 1 3 v) := fun e he => by
  have h3 : ∀ e ∈ LYX, ¬ (e.1 = 1 ∧ e.2.1 = 3) := by decide +kernel
  exact (if_neg (h3 e he)).trans (h e he)
theorem lyX_put4 {G : Nat → Nat → Nat} {v : Nat} (h : lyX G) : lyX (up2 G 1 4 v) := fun e he => by
  have h3 : ∀ e ∈ LYX, ¬ (e.1 = 1 ∧ e.2.1 = 4) := by decide +kernel
  exact (if_neg (h3 e he)).trans (h e he)
theorem GS_same {G : Nat → Nat → Nat} {rv sp : Nat} (h1 : G 1 3 = rv) (h2 : G 1 4 = sp) : up2 (up2 G 1 3 rv) 1 4 sp = G := by
  funext x y
  unfold up2
  by_cases hx : x = 1 ∧ y = 4
  · rw [if_pos hx, hx.1, hx.2, h2]
  · rw [if_neg hx]
    by_cases hy : x = 1 ∧ y = 3
    · rw [if_pos hy, hy.1, hy.2, h1]
    · rw [if_neg hy]
def BEDS : List Nat := [49, 56, 65, 72, 79, 86, 93, 100, 107, 114, 121, 128, 135, 142, 149, 156, 163, 170, 177, 184, 191, 198, 205, 212, 219, 226, 233, 275, 282, 289]
def isBed (r : Nat) : Prop := r ∈ BEDS
theorem is_49 : isBed 49 := (by decide +kernel : 49 ∈ BEDS)
theorem is_56 : isBed 56 := (by decide +kernel : 56 ∈ BEDS)
theorem is_65 : isBed 65 := (by decide +kernel : 65 ∈ BEDS)
theorem is_72 : isBed 72 := (by decide +kernel : 72 ∈ BEDS)
theorem is_79 : isBed 79 := (by decide +kernel : 79 ∈ BEDS)
theorem is_86 : isBed 86 := (by decide +kernel : 86 ∈ BEDS)
theorem is_93 : isBed 93 := (by decide +kernel : 93 ∈ BEDS)
theorem is_100 : isBed 100 := (by decide +kernel : 100 ∈ BEDS)
theorem is_107 : isBed 107 := (by decide +kernel : 107 ∈ BEDS)
theorem is_114 : isBed 114 := (by decide +kernel : 114 ∈ BEDS)
theorem is_121 : isBed 121 := (by decide +kernel : 121 ∈ BEDS)
theorem is_128 : isBed 128 := (by decide +kernel : 128 ∈ BEDS)
theorem is_135 : isBed 135 := (by decide +kernel : 135 ∈ BEDS)
theorem is_142 : isBed 142 := (by decide +kernel : 142 ∈ BEDS)
theorem is_149 : isBed 149 := (by decide +kernel : 149 ∈ BEDS)
theorem is_156 : isBed 156 := (by decide +kernel : 156 ∈ BEDS)
theorem is_163 : isBed 163 := (by decide +kernel : 163 ∈ BEDS)
theorem is_170 : isBed 170 := (by decide +kernel : 170 ∈ BEDS)
theorem is_177 : isBed 177 := (by decide +kernel : 177 ∈ BEDS)
theorem is_184 : isBed 184 := (by decide +kernel : 184 ∈ BEDS)
theorem is_191 : isBed 191 := (by decide +kernel : 191 ∈ BEDS)
theorem is_198 : isBed 198 := (by decide +kernel : 198 ∈ BEDS)
theorem is_205 : isBed 205 := (by decide +kernel : 205 ∈ BEDS)
theorem is_212 : isBed 212 := (by decide +kernel : 212 ∈ BEDS)
theorem is_219 : isBed 219 := (by decide +kernel : 219 ∈ BEDS)
theorem is_226 : isBed 226 := (by decide +kernel : 226 ∈ BEDS)
theorem is_233 : isBed 233 := (by decide +kernel : 233 ∈ BEDS)
theorem is_275 : isBed 275 := (by decide +kernel : 275 ∈ BEDS)
theorem is_282 : isBed 282 := (by decide +kernel : 282 ∈ BEDS)
theorem is_289 : isBed 289 := (by decide +kernel : 289 ∈ BEDS)
theorem bedF : ∀ r ∈ BEDS, SH r = (0, 7) ∧ SH (r + 1) = (20, 96) ∧ SH (r + 2) = (20, 96) ∧ SH (r + 3) = (20, 96) ∧ SH (r + 4) = (20, 72) ∧ SH (r + 5) = (20, 8) ∧ SH (r + 6) = (20, 8) ∧ 0 < r ∧ r + 6 ≤ 295 := by decide +kernel
theorem bed_sh {r : Nat} (h : isBed r) : SH r = (0, 7) := (bedF r h).1
theorem bed_sh1 {r : Nat} (h : isBed r) : SH (r + 1) = (20, 96) := (bedF r h).2.1
theorem bed_sh2 {r : Nat} (h : isBed r) : SH (r + 2) = (20, 96) := (bedF r h).2.2.1
theorem bed_sh3 {r : Nat} (h : isBed r) : SH (r + 3) = (20, 96) := (bedF r h).2.2.2.1
theorem bed_sh4 {r : Nat} (h : isBed r) : SH (r + 4) = (20, 72) := (bedF r h).2.2.2.2.1
theorem bed_sh5 {r : Nat} (h : isBed r) : SH (r + 5) = (20, 8) := (bedF r h).2.2.2.2.2.1
theorem bed_sh6 {r : Nat} (h : isBed r) : SH (r + 6) = (20, 8) := (bedF r h).2.2.2.2.2.2.1
theorem bed_pos {r : Nat} (h : isBed r) : 0 < r := (bedF r h).2.2.2.2.2.2.2.1
theorem bed_leq {r : Nat} (h : isBed r) : r + 6 ≤ 295 := (bedF r h).2.2.2.2.2.2.2.2
theorem bed_le {r : Nat} (h : isBed r) : r ≤ 295 := by have := bed_leq h; omega
theorem bed_le1 {r : Nat} (h : isBed r) : r + 1 ≤ 295 := by have := bed_leq h; omega
theorem bed_le2 {r : Nat} (h : isBed r) : r + 2 ≤ 295 := by have := bed_leq h; omega
theorem bed_le3 {r : Nat} (h : isBed r) : r + 3 ≤ 295 := by have := bed_leq h; omega
theorem bed_le4 {r : Nat} (h : isBed r) : r + 4 ≤ 295 := by have := bed_leq h; omega
theorem bed_le5 {r : Nat} (h : isBed r) : r + 5 ≤ 295 := by have := bed_leq h; omega
theorem bed_le6 {r : Nat} (h : isBed r) : r + 6 ≤ 295 := by have := bed_leq h; omega
theorem bedG1 : ∀ r ∈ BEDS, (r, 1, r + 1) ∈ LYX := by decide +kernel
theorem bed_g1 {G : Nat → Nat → Nat} {r : Nat} (hG : lyX G) (h : isBed r) : G r 1 = r + 1 := hG _ (bedG1 r h)
theorem bedG2 : ∀ r ∈ BEDS, (r, 2, r + 2) ∈ LYX := by decide +kernel
theorem bed_g2 {G : Nat → Nat → Nat} {r : Nat} (hG : lyX G) (h : isBed r) : G r 2 = r + 2 := hG _ (bedG2 r h)
theorem bedG3 : ∀ r ∈ BEDS, (r, 3, r + 3) ∈ LYX := by decide +kernel
theorem bed_g3 {G : Nat → Nat → Nat} {r : Nat} (hG : lyX G) (h : isBed r) : G r 3 = r + 3 := hG _ (bedG3 r h)
theorem bedG4 : ∀ r ∈ BEDS, (r, 4, r + 4) ∈ LYX := by decide +kernel
theorem bed_g4 {G : Nat → Nat → Nat} {r : Nat} (hG : lyX G) (h : isBed r) : G r 4 = r + 4 := hG _ (bedG4 r h)
theorem bedG5 : ∀ r ∈ BEDS, (r, 5, r + 5) ∈ LYX := by decide +kernel
theorem bed_g5 {G : Nat → Nat → Nat} {r : Nat} (hG : lyX G) (h : isBed r) : G r 5 = r + 5 := hG _ (bedG5 r h)
theorem bedG6 : ∀ r ∈ BEDS, (r, 6, r + 6) ∈ LYX := by decide +kernel
theorem bed_g6 {G : Nat → Nat → Nat} {r : Nat} (hG : lyX G) (h : isBed r) : G r 6 = r + 6 := hG _ (bedG6 r h)
def RIVS : List Nat := [11, 30]
def isRiv (r : Nat) : Prop := r ∈ RIVS
theorem is_11 : isRiv 11 := (by decide +kernel : 11 ∈ RIVS)
theorem is_30 : isRiv 30 := (by decide +kernel : 30 ∈ RIVS)
theorem rivF : ∀ r ∈ RIVS, SH r = (6, 15) ∧ SH (r + 1) = (20, 96) ∧ SH (r + 2) = (20, 8) ∧ SH (r + 3) = (20, 8) ∧ SH (r + 4) = (20, 8) ∧ SH (r + 5) = (20, 8) ∧ SH (r + 6) = (20, 8) ∧ SH (r + 7) = (20, 8) ∧ SH (r + 8) = (20, 8) ∧ SH (r + 9) = (3, 5) ∧ SH (r + 14) = (3, 5) ∧ 0 < r ∧ r + 14 ≤ 295 := by decide +kernel
theorem riv_sh {r : Nat} (h : isRiv r) : SH r = (6, 15) := (rivF r h).1
theorem riv_sh3 {r : Nat} (h : isRiv r) : SH (r + 1) = (20, 96) := (rivF r h).2.1
theorem riv_sh4 {r : Nat} (h : isRiv r) : SH (r + 2) = (20, 8) := (rivF r h).2.2.1
theorem riv_sh6 {r : Nat} (h : isRiv r) : SH (r + 3) = (20, 8) := (rivF r h).2.2.2.1
theorem riv_sh7 {r : Nat} (h : isRiv r) : SH (r + 4) = (20, 8) := (rivF r h).2.2.2.2.1
theorem riv_sh8 {r : Nat} (h : isRiv r) : SH (r + 5) = (20, 8) := (rivF r h).2.2.2.2.2.1
theorem riv_sh9 {r : Nat} (h : isRiv r) : SH (r + 6) = (20, 8) := (rivF r h).2.2.2.2.2.2.1
theorem riv_sh11 {r : Nat} (h : isRiv r) : SH (r + 7) = (20, 8) := (rivF r h).2.2.2.2.2.2.2.1
theorem riv_sh12 {r : Nat} (h : isRiv r) : SH (r + 8) = (20, 8) := (rivF r h).2.2.2.2.2.2.2.2.1
theorem riv_sh13 {r : Nat} (h : isRiv r) : SH (r + 9) = (3, 5) := (rivF r h).2.2.2.2.2.2.2.2.2.1
theorem riv_sh14 {r : Nat} (h : isRiv r) : SH (r + 14) = (3, 5) := (rivF r h).2.2.2.2.2.2.2.2.2.2.1
theorem riv_pos {r : Nat} (h : isRiv r) : 0 < r := (rivF r h).2.2.2.2.2.2.2.2.2.2.2.1
theorem riv_leq {r : Nat} (h : isRiv r) : r + 14 ≤ 295 := (rivF r h).2.2.2.2.2.2.2.2.2.2.2.2
theorem riv_le {r : Nat} (h : isRiv r) : r ≤ 295 := by have := riv_leq h; omega
theorem riv_le3 {r : Nat} (h : isRiv r) : r + 1 ≤ 295 := by have := riv_leq h; omega
theorem riv_le4 {r : Nat} (h : isRiv r) : r + 2 ≤ 295 := by have := riv_leq h; omega
theorem riv_le6 {r : Nat} (h : isRiv r) : r + 3 ≤ 295 := by have := riv_leq h; omega
theorem riv_le7 {r : Nat} (h : isRiv r) : r + 4 ≤ 295 := by have := riv_leq h; omega
theorem riv_le8 {r : Nat} (h : isRiv r) : r + 5 ≤ 295 := by have := riv_leq h; omega
theorem riv_le9 {r : Nat} (h : isRiv r) : r + 6 ≤ 295 := by have := riv_leq h; omega
theorem riv_le11 {r : Nat} (h : isRiv r) : r + 7 ≤ 295 := by have := riv_leq h; omega
theorem riv_le12 {r : Nat} (h : isRiv r) : r + 8 ≤ 295 := by have := riv_leq h; omega
theorem riv_le13 {r : Nat} (h : isRiv r) : r + 9 ≤ 295 := by have := riv_leq h; omega
theorem riv_le14 {r : Nat} (h : isRiv r) : r + 14 ≤ 295 := by have := riv_leq h; omega
theorem rivG3 : ∀ r ∈ RIVS, (r, 3, r + 1) ∈ LYX := by decide +kernel
theorem riv_g3 {G : Nat → Nat → Nat} {r : Nat} (hG : lyX G) (h : isRiv r) : G r 3 = r + 1 := hG _ (rivG3 r h)
theorem rivG4 : ∀ r ∈ RIVS, (r, 4, r + 2) ∈ LYX := by decide +kernel
theorem riv_g4 {G : Nat → Nat → Nat} {r : Nat} (hG : lyX G) (h : isRiv r) : G r 4 = r + 2 := hG _ (rivG4 r h)
theorem rivG6 : ∀ r ∈ RIVS, (r, 6, r + 3) ∈ LYX := by decide +kernel
theorem riv_g6 {G : Nat → Nat → Nat} {r : Nat} (hG : lyX G) (h : isRiv r) : G r 6 = r + 3 := hG _ (rivG6 r h)
theorem rivG7 : ∀ r ∈ RIVS, (r, 7, r + 4) ∈ LYX := by decide +kernel
theorem riv_g7 {G : Nat → Nat → Nat} {r : Nat} (hG : lyX G) (h : isRiv r) : G r 7 = r + 4 := hG _ (rivG7 r h)
theorem rivG8 : ∀ r ∈ RIVS, (r, 8, r + 5) ∈ LYX := by decide +kernel
theorem riv_g8 {G : Nat → Nat → Nat} {r : Nat} (hG : lyX G) (h : isRiv r) : G r 8 = r + 5 := hG _ (rivG8 r h)
theorem rivG9 : ∀ r ∈ RIVS, (r, 9, r + 6) ∈ LYX := by decide +kernel
theorem riv_g9 {G : Nat → Nat → Nat} {r : Nat} (hG : lyX G) (h : isRiv r) : G r 9 = r + 6 := hG _ (rivG9 r h)
theorem rivG11 : ∀ r ∈ RIVS, (r, 11, r + 7) ∈ LYX := by decide +kernel
theorem riv_g11 {G : Nat → Nat → Nat} {r : Nat} (hG : lyX G) (h : isRiv r) : G r 11 = r + 7 := hG _ (rivG11 r h)
theorem rivG12 : ∀ r ∈ RIVS, (r, 12, r + 8) ∈ LYX := by decide +kernel
theorem riv_g12 {G : Nat → Nat → Nat} {r : Nat} (hG : lyX G) (h : isRiv r) : G r 12 = r + 8 := hG _ (rivG12 r h)
theorem rivG13 : ∀ r ∈ RIVS, (r, 13, r + 9) ∈ LYX := by decide +kernel
theorem riv_g13 {G : Nat → Nat → Nat} {r : Nat} (hG : lyX G) (h : isRiv r) : G r 13 = r + 9 := hG _ (rivG13 r h)
theorem rivG14 : ∀ r ∈ RIVS, (r, 14, r + 14) ∈ LYX := by decide +kernel
theorem riv_g14 {G : Nat → Nat → Nat} {r : Nat} (hG : lyX G) (h : isRiv r) : G r 14 = r + 14 := hG _ (rivG14 r h)
def LAWS : List Nat := [20, 25, 39, 44]
def isLaw (r : Nat) : Prop := r ∈ LAWS
theorem is_20 : isLaw 20 := (by decide +kernel : 20 ∈ LAWS)
theorem is_25 : isLaw 25 := (by decide +kernel : 25 ∈ LAWS)
theorem is_39 : isLaw 39 := (by decide +kernel : 39 ∈ LAWS)
theorem is_44 : isLaw 44 := (by decide +kernel : 44 ∈ LAWS)
theorem lawF : ∀ r ∈ LAWS, SH r = (3, 5) ∧ SH (r + 1) = (20, 402) ∧ SH (r + 2) = (20, 402) ∧ SH (r + 3) = (20, 32) ∧ SH (r + 4) = (20, 6) ∧ 0 < r ∧ r + 4 ≤ 295 := by decide +kernel
theorem law_sh {r : Nat} (h : isLaw r) : SH r = (3, 5) := (lawF r h).1
theorem law_sh0 {r : Nat} (h : isLaw r) : SH (r + 1) = (20, 402) := (lawF r h).2.1
theorem law_sh1 {r : Nat} (h : isLaw r) : SH (r + 2) = (20, 402) := (lawF r h).2.2.1
theorem law_sh2 {r : Nat} (h : isLaw r) : SH (r + 3) = (20, 32) := (lawF r h).2.2.2.1
theorem law_sh3 {r : Nat} (h : isLaw r) : SH (r + 4) = (20, 6) := (lawF r h).2.2.2.2.1
theorem law_pos {r : Nat} (h : isLaw r) : 0 < r := (lawF r h).2.2.2.2.2.1
theorem law_leq {r : Nat} (h : isLaw r) : r + 4 ≤ 295 := (lawF r h).2.2.2.2.2.2
theorem law_le {r : Nat} (h : isLaw r) : r ≤ 295 := by have := law_leq h; omega
theorem law_le0 {r : Nat} (h : isLaw r) : r + 1 ≤ 295 := by have := law_leq h; omega
theorem law_le1 {r : Nat} (h : isLaw r) : r + 2 ≤ 295 := by have := law_leq h; omega
theorem law_le2 {r : Nat} (h : isLaw r) : r + 3 ≤ 295 := by have := law_leq h; omega
theorem law_le3 {r : Nat} (h : isLaw r) : r + 4 ≤ 295 := by have := law_leq h; omega
theorem lawG0 : ∀ r ∈ LAWS, (r, 0, r + 1) ∈ LYX := by decide +kernel
theorem law_g0 {G : Nat → Nat → Nat} {r : Nat} (hG : lyX G) (h : isLaw r) : G r 0 = r + 1 := hG _ (lawG0 r h)
theorem lawG1 : ∀ r ∈ LAWS, (r, 1, r + 2) ∈ LYX := by decide +kernel
theorem law_g1 {G : Nat → Nat → Nat} {r : Nat} (hG : lyX G) (h : isLaw r) : G r 1 = r + 2 := hG _ (lawG1 r h)
theorem lawG2 : ∀ r ∈ LAWS, (r, 2, r + 3) ∈ LYX := by decide +kernel
theorem law_g2 {G : Nat → Nat → Nat} {r : Nat} (hG : lyX G) (h : isLaw r) : G r 2 = r + 3 := hG _ (lawG2 r h)
theorem lawG3 : ∀ r ∈ LAWS, (r, 3, r + 4) ∈ LYX := by decide +kernel
theorem law_g3 {G : Nat → Nat → Nat} {r : Nat} (hG : lyX G) (h : isLaw r) : G r 3 = r + 4 := hG _ (lawG3 r h)
theorem riv_is13 {r : Nat} (h : isRiv r) : isLaw (r + 9) := (by decide +kernel : ∀ r ∈ RIVS, r + 9 ∈ LAWS) r h
theorem riv_is14 {r : Nat} (h : isRiv r) : isLaw (r + 14) := (by decide +kernel : ∀ r ∈ RIVS, r + 14 ∈ LAWS) r h
theorem bed_beds {i : Int} (h : 0 ≤ i ∧ i < 25) : isBed (65 + 7 * i.toNat) := (by decide +kernel : ∀ k, k < 25 → 65 + 7 * k ∈ BEDS) _ (by omega)
theorem ly_beds {G : Nat → Nat → Nat} {i : Int} (hG : lyX G) (h : 0 ≤ i ∧ i < 25) : G 64 i.toNat = 65 + 7 * i.toNat := by
  have := hG _ ((by decide +kernel : ∀ k, k < 25 → (64, k, 65 + 7 * k) ∈ LYX) i.toNat (by omega))
  exact this
theorem bed_slots {i : Int} (h : 0 ≤ i ∧ i < 3) : isBed (275 + 7 * i.toNat) := (by decide +kernel : ∀ k, k < 3 → 275 + 7 * k ∈ BEDS) _ (by omega)
theorem ly_slots {G : Nat → Nat → Nat} {i : Int} (hG : lyX G) (h : 0 ≤ i ∧ i < 3) : G 240 i.toNat = 275 + 7 * i.toNat := by
  have := hG _ ((by decide +kernel : ∀ k, k < 3 → (240, k, 275 + 7 * k) ∈ LYX) i.toNat (by omega))
  exact this
theorem ly_dr {G : Nat → Nat → Nat} {i : Int} (hG : lyX G) (h : 0 ≤ i ∧ i < 8) : G 257 i.toNat = 258 + i.toNat := by
  have := hG _ ((by decide +kernel : ∀ k, k < 8 → (257, k, 258 + k) ∈ LYX) i.toNat (by omega))
  exact this
theorem dr_sh {i : Int} (h : 0 ≤ i ∧ i < 8) : SH (258 + i.toNat) = (20, 8) := (by decide +kernel : ∀ k, k < 8 → SH (258 + k) = (20, 8)) _ (by omega)
theorem dr_pos {i : Int} (_ : 0 ≤ i ∧ i < 8) : 0 < 258 + i.toNat := by omega
theorem dr_le {i : Int} (h : 0 ≤ i ∧ i < 8) : 258 + i.toNat ≤ 295 := by omega
theorem sh_1 : SH 1 = (10, 16) := by decide +kernel
theorem sh_2 : SH 2 = (7, 2) := by decide +kernel
theorem sh_3 : SH 3 = (21, 2000) := by decide +kernel
theorem sh_4 : SH 4 = (5, 8) := by decide +kernel
theorem sh_5 : SH 5 = (8, 4) := by decide +kernel
theorem sh_6 : SH 6 = (20, 402) := by decide +kernel
theorem sh_7 : SH 7 = (20, 402) := by decide +kernel
theorem sh_8 : SH 8 = (20, 402) := by decide +kernel
theorem sh_9 : SH 9 = (20, 402) := by decide +kernel
theorem sh_10 : SH 10 = (20, 8) := by decide +kernel
theorem sh_11 : SH 11 = (6, 15) := by decide +kernel
theorem sh_12 : SH 12 = (20, 96) := by decide +kernel
theorem sh_13 : SH 13 = (20, 8) := by decide +kernel
theorem sh_14 : SH 14 = (20, 8) := by decide +kernel
theorem sh_15 : SH 15 = (20, 8) := by decide +kernel
theorem sh_16 : SH 16 = (20, 8) := by decide +kernel
theorem sh_17 : SH 17 = (20, 8) := by decide +kernel
theorem sh_18 : SH 18 = (20, 8) := by decide +kernel
theorem sh_19 : SH 19 = (20, 8) := by decide +kernel
theorem sh_20 : SH 20 = (3, 5) := by decide +kernel
theorem sh_21 : SH 21 = (20, 402) := by decide +kernel
theorem sh_22 : SH 22 = (20, 402) := by decide +kernel
theorem sh_23 : SH 23 = (20, 32) := by decide +kernel
theorem sh_24 : SH 24 = (20, 6) := by decide +kernel
theorem sh_25 : SH 25 = (3, 5) := by decide +kernel
theorem sh_26 : SH 26 = (20, 402) := by decide +kernel
theorem sh_27 : SH 27 = (20, 402) := by decide +kernel
theorem sh_28 : SH 28 = (20, 32) := by decide +kernel
theorem sh_29 : SH 29 = (20, 6) := by decide +kernel
theorem sh_30 : SH 30 = (6, 15) := by decide +kernel
theorem sh_31 : SH 31 = (20, 96) := by decide +kernel
theorem sh_32 : SH 32 = (20, 8) := by decide +kernel
theorem sh_33 : SH 33 = (20, 8) := by decide +kernel
theorem sh_34 : SH 34 = (20, 8) := by decide +kernel
theorem sh_35 : SH 35 = (20, 8) := by decide +kernel
theorem sh_36 : SH 36 = (20, 8) := by decide +kernel
theorem sh_37 : SH 37 = (20, 8) := by decide +kernel
theorem sh_38 : SH 38 = (20, 8) := by decide +kernel
theorem sh_39 : SH 39 = (3, 5) := by decide +kernel
theorem sh_40 : SH 40 = (20, 402) := by decide +kernel
theorem sh_41 : SH 41 = (20, 402) := by decide +kernel
theorem sh_42 : SH 42 = (20, 32) := by decide +kernel
theorem sh_43 : SH 43 = (20, 6) := by decide +kernel
theorem sh_44 : SH 44 = (3, 5) := by decide +kernel
theorem sh_45 : SH 45 = (20, 402) := by decide +kernel
theorem sh_46 : SH 46 = (20, 402) := by decide +kernel
theorem sh_47 : SH 47 = (20, 32) := by decide +kernel
theorem sh_48 : SH 48 = (20, 6) := by decide +kernel
theorem sh_49 : SH 49 = (0, 7) := by decide +kernel
theorem sh_50 : SH 50 = (20, 96) := by decide +kernel
theorem sh_51 : SH 51 = (20, 96) := by decide +kernel
theorem sh_52 : SH 52 = (20, 96) := by decide +kernel
theorem sh_53 : SH 53 = (20, 72) := by decide +kernel
theorem sh_54 : SH 54 = (20, 8) := by decide +kernel
theorem sh_55 : SH 55 = (20, 8) := by decide +kernel
theorem sh_56 : SH 56 = (0, 7) := by decide +kernel
theorem sh_57 : SH 57 = (20, 96) := by decide +kernel
theorem sh_58 : SH 58 = (20, 96) := by decide +kernel
theorem sh_59 : SH 59 = (20, 96) := by decide +kernel
theorem sh_60 : SH 60 = (20, 72) := by decide +kernel
theorem sh_61 : SH 61 = (20, 8) := by decide +kernel
theorem sh_62 : SH 62 = (20, 8) := by decide +kernel
theorem sh_63 : SH 63 = (4, 3) := by decide +kernel
theorem sh_64 : SH 64 = (24, 25) := by decide +kernel
theorem sh_65 : SH 65 = (0, 7) := by decide +kernel
theorem sh_66 : SH 66 = (20, 96) := by decide +kernel
theorem sh_67 : SH 67 = (20, 96) := by decide +kernel
theorem sh_68 : SH 68 = (20, 96) := by decide +kernel
theorem sh_69 : SH 69 = (20, 72) := by decide +kernel
theorem sh_70 : SH 70 = (20, 8) := by decide +kernel
theorem sh_71 : SH 71 = (20, 8) := by decide +kernel
theorem sh_72 : SH 72 = (0, 7) := by decide +kernel
theorem sh_73 : SH 73 = (20, 96) := by decide +kernel
theorem sh_74 : SH 74 = (20, 96) := by decide +kernel
theorem sh_75 : SH 75 = (20, 96) := by decide +kernel
theorem sh_76 : SH 76 = (20, 72) := by decide +kernel
theorem sh_77 : SH 77 = (20, 8) := by decide +kernel
theorem sh_78 : SH 78 = (20, 8) := by decide +kernel
theorem sh_79 : SH 79 = (0, 7) := by decide +kernel
theorem sh_80 : SH 80 = (20, 96) := by decide +kernel
theorem sh_81 : SH 81 = (20, 96) := by decide +kernel
theorem sh_82 : SH 82 = (20, 96) := by decide +kernel
theorem sh_83 : SH 83 = (20, 72) := by decide +kernel
theorem sh_84 : SH 84 = (20, 8) := by decide +kernel
theorem sh_85 : SH 85 = (20, 8) := by decide +kernel
theorem sh_86 : SH 86 = (0, 7) := by decide +kernel
theorem sh_87 : SH 87 = (20, 96) := by decide +kernel
theorem sh_88 : SH 88 = (20, 96) := by decide +kernel
theorem sh_89 : SH 89 = (20, 96) := by decide +kernel
theorem sh_90 : SH 90 = (20, 72) := by decide +kernel
theorem sh_91 : SH 91 = (20, 8) := by decide +kernel
theorem sh_92 : SH 92 = (20, 8) := by decide +kernel
theorem sh_93 : SH 93 = (0, 7) := by decide +kernel
theorem sh_94 : SH 94 = (20, 96) := by decide +kernel
theorem sh_95 : SH 95 = (20, 96) := by decide +kernel
theorem sh_96 : SH 96 = (20, 96) := by decide +kernel
theorem sh_97 : SH 97 = (20, 72) := by decide +kernel
theorem sh_98 : SH 98 = (20, 8) := by decide +kernel
theorem sh_99 : SH 99 = (20, 8) := by decide +kernel
theorem sh_100 : SH 100 = (0, 7) := by decide +kernel
theorem sh_101 : SH 101 = (20, 96) := by decide +kernel
theorem sh_102 : SH 102 = (20, 96) := by decide +kernel
theorem sh_103 : SH 103 = (20, 96) := by decide +kernel
theorem sh_104 : SH 104 = (20, 72) := by decide +kernel
theorem sh_105 : SH 105 = (20, 8) := by decide +kernel
theorem sh_106 : SH 106 = (20, 8) := by decide +kernel
theorem sh_107 : SH 107 = (0, 7) := by decide +kernel
theorem sh_108 : SH 108 = (20, 96) := by decide +kernel
theorem sh_109 : SH 109 = (20, 96) := by decide +kernel
theorem sh_110 : SH 110 = (20, 96) := by decide +kernel
theorem sh_111 : SH 111 = (20, 72) := by decide +kernel
theorem sh_112 : SH 112 = (20, 8) := by decide +kernel
theorem sh_113 : SH 113 = (20, 8) := by decide +kernel
theorem sh_114 : SH 114 = (0, 7) := by decide +kernel
theorem sh_115 : SH 115 = (20, 96) := by decide +kernel
theorem sh_116 : SH 116 = (20, 96) := by decide +kernel
theorem sh_117 : SH 117 = (20, 96) := by decide +kernel
theorem sh_118 : SH 118 = (20, 72) := by decide +kernel
theorem sh_119 : SH 119 = (20, 8) := by decide +kernel
theorem sh_120 : SH 120 = (20, 8) := by decide +kernel
theorem sh_121 : SH 121 = (0, 7) := by decide +kernel
theorem sh_122 : SH 122 = (20, 96) := by decide +kernel
theorem sh_123 : SH 123 = (20, 96) := by decide +kernel
theorem sh_124 : SH 124 = (20, 96) := by decide +kernel
theorem sh_125 : SH 125 = (20, 72) := by decide +kernel
theorem sh_126 : SH 126 = (20, 8) := by decide +kernel
theorem sh_127 : SH 127 = (20, 8) := by decide +kernel
theorem sh_128 : SH 128 = (0, 7) := by decide +kernel
theorem sh_129 : SH 129 = (20, 96) := by decide +kernel
theorem sh_130 : SH 130 = (20, 96) := by decide +kernel
theorem sh_131 : SH 131 = (20, 96) := by decide +kernel
theorem sh_132 : SH 132 = (20, 72) := by decide +kernel
theorem sh_133 : SH 133 = (20, 8) := by decide +kernel
theorem sh_134 : SH 134 = (20, 8) := by decide +kernel
theorem sh_135 : SH 135 = (0, 7) := by decide +kernel
theorem sh_136 : SH 136 = (20, 96) := by decide +kernel
theorem sh_137 : SH 137 = (20, 96) := by decide +kernel
theorem sh_138 : SH 138 = (20, 96) := by decide +kernel
theorem sh_139 : SH 139 = (20, 72) := by decide +kernel
theorem sh_140 : SH 140 = (20, 8) := by decide +kernel
theorem sh_141 : SH 141 = (20, 8) := by decide +kernel
theorem sh_142 : SH 142 = (0, 7) := by decide +kernel
theorem sh_143 : SH 143 = (20, 96) := by decide +kernel
theorem sh_144 : SH 144 = (20, 96) := by decide +kernel
theorem sh_145 : SH 145 = (20, 96) := by decide +kernel
theorem sh_146 : SH 146 = (20, 72) := by decide +kernel
theorem sh_147 : SH 147 = (20, 8) := by decide +kernel
theorem sh_148 : SH 148 = (20, 8) := by decide +kernel
theorem sh_149 : SH 149 = (0, 7) := by decide +kernel
theorem sh_150 : SH 150 = (20, 96) := by decide +kernel
theorem sh_151 : SH 151 = (20, 96) := by decide +kernel
theorem sh_152 : SH 152 = (20, 96) := by decide +kernel
theorem sh_153 : SH 153 = (20, 72) := by decide +kernel
theorem sh_154 : SH 154 = (20, 8) := by decide +kernel
theorem sh_155 : SH 155 = (20, 8) := by decide +kernel
theorem sh_156 : SH 156 = (0, 7) := by decide +kernel
theorem sh_157 : SH 157 = (20, 96) := by decide +kernel
theorem sh_158 : SH 158 = (20, 96) := by decide +kernel
theorem sh_159 : SH 159 = (20, 96) := by decide +kernel
theorem sh_160 : SH 160 = (20, 72) := by decide +kernel
theorem sh_161 : SH 161 = (20, 8) := by decide +kernel
theorem sh_162 : SH 162 = (20, 8) := by decide +kernel
theorem sh_163 : SH 163 = (0, 7) := by decide +kernel
theorem sh_164 : SH 164 = (20, 96) := by decide +kernel
theorem sh_165 : SH 165 = (20, 96) := by decide +kernel
theorem sh_166 : SH 166 = (20, 96) := by decide +kernel
theorem sh_167 : SH 167 = (20, 72) := by decide +kernel
theorem sh_168 : SH 168 = (20, 8) := by decide +kernel
theorem sh_169 : SH 169 = (20, 8) := by decide +kernel
theorem sh_170 : SH 170 = (0, 7) := by decide +kernel
theorem sh_171 : SH 171 = (20, 96) := by decide +kernel
theorem sh_172 : SH 172 = (20, 96) := by decide +kernel
theorem sh_173 : SH 173 = (20, 96) := by decide +kernel
theorem sh_174 : SH 174 = (20, 72) := by decide +kernel
theorem sh_175 : SH 175 = (20, 8) := by decide +kernel
theorem sh_176 : SH 176 = (20, 8) := by decide +kernel
theorem sh_177 : SH 177 = (0, 7) := by decide +kernel
theorem sh_178 : SH 178 = (20, 96) := by decide +kernel
theorem sh_179 : SH 179 = (20, 96) := by decide +kernel
theorem sh_180 : SH 180 = (20, 96) := by decide +kernel
theorem sh_181 : SH 181 = (20, 72) := by decide +kernel
theorem sh_182 : SH 182 = (20, 8) := by decide +kernel
theorem sh_183 : SH 183 = (20, 8) := by decide +kernel
theorem sh_184 : SH 184 = (0, 7) := by decide +kernel
theorem sh_185 : SH 185 = (20, 96) := by decide +kernel
theorem sh_186 : SH 186 = (20, 96) := by decide +kernel
theorem sh_187 : SH 187 = (20, 96) := by decide +kernel
theorem sh_188 : SH 188 = (20, 72) := by decide +kernel
theorem sh_189 : SH 189 = (20, 8) := by decide +kernel
theorem sh_190 : SH 190 = (20, 8) := by decide +kernel
theorem sh_191 : SH 191 = (0, 7) := by decide +kernel
theorem sh_192 : SH 192 = (20, 96) := by decide +kernel
theorem sh_193 : SH 193 = (20, 96) := by decide +kernel
theorem sh_194 : SH 194 = (20, 96) := by decide +kernel
theorem sh_195 : SH 195 = (20, 72) := by decide +kernel
theorem sh_196 : SH 196 = (20, 8) := by decide +kernel
theorem sh_197 : SH 197 = (20, 8) := by decide +kernel
theorem sh_198 : SH 198 = (0, 7) := by decide +kernel
theorem sh_199 : SH 199 = (20, 96) := by decide +kernel
theorem sh_200 : SH 200 = (20, 96) := by decide +kernel
theorem sh_201 : SH 201 = (20, 96) := by decide +kernel
theorem sh_202 : SH 202 = (20, 72) := by decide +kernel
theorem sh_203 : SH 203 = (20, 8) := by decide +kernel
theorem sh_204 : SH 204 = (20, 8) := by decide +kernel
theorem sh_205 : SH 205 = (0, 7) := by decide +kernel
theorem sh_206 : SH 206 = (20, 96) := by decide +kernel
theorem sh_207 : SH 207 = (20, 96) := by decide +kernel
theorem sh_208 : SH 208 = (20, 96) := by decide +kernel
theorem sh_209 : SH 209 = (20, 72) := by decide +kernel
theorem sh_210 : SH 210 = (20, 8) := by decide +kernel
theorem sh_211 : SH 211 = (20, 8) := by decide +kernel
theorem sh_212 : SH 212 = (0, 7) := by decide +kernel
theorem sh_213 : SH 213 = (20, 96) := by decide +kernel
theorem sh_214 : SH 214 = (20, 96) := by decide +kernel
theorem sh_215 : SH 215 = (20, 96) := by decide +kernel
theorem sh_216 : SH 216 = (20, 72) := by decide +kernel
theorem sh_217 : SH 217 = (20, 8) := by decide +kernel
theorem sh_218 : SH 218 = (20, 8) := by decide +kernel
theorem sh_219 : SH 219 = (0, 7) := by decide +kernel
theorem sh_220 : SH 220 = (20, 96) := by decide +kernel
theorem sh_221 : SH 221 = (20, 96) := by decide +kernel
theorem sh_222 : SH 222 = (20, 96) := by decide +kernel
theorem sh_223 : SH 223 = (20, 72) := by decide +kernel
theorem sh_224 : SH 224 = (20, 8) := by decide +kernel
theorem sh_225 : SH 225 = (20, 8) := by decide +kernel
theorem sh_226 : SH 226 = (0, 7) := by decide +kernel
theorem sh_227 : SH 227 = (20, 96) := by decide +kernel
theorem sh_228 : SH 228 = (20, 96) := by decide +kernel
theorem sh_229 : SH 229 = (20, 96) := by decide +kernel
theorem sh_230 : SH 230 = (20, 72) := by decide +kernel
theorem sh_231 : SH 231 = (20, 8) := by decide +kernel
theorem sh_232 : SH 232 = (20, 8) := by decide +kernel
theorem sh_233 : SH 233 = (0, 7) := by decide +kernel
theorem sh_234 : SH 234 = (20, 96) := by decide +kernel
theorem sh_235 : SH 235 = (20, 96) := by decide +kernel
theorem sh_236 : SH 236 = (20, 96) := by decide +kernel
theorem sh_237 : SH 237 = (20, 72) := by decide +kernel
theorem sh_238 : SH 238 = (20, 8) := by decide +kernel
theorem sh_239 : SH 239 = (20, 8) := by decide +kernel
theorem sh_240 : SH 240 = (24, 3) := by decide +kernel
theorem sh_241 : SH 241 = (22, 3) := by decide +kernel
theorem sh_242 : SH 242 = (20, 20) := by decide +kernel
theorem sh_243 : SH 243 = (20, 20) := by decide +kernel
theorem sh_244 : SH 244 = (9, 6) := by decide +kernel
theorem sh_245 : SH 245 = (20, 96) := by decide +kernel
theorem sh_246 : SH 246 = (20, 96) := by decide +kernel
theorem sh_247 : SH 247 = (20, 96) := by decide +kernel
theorem sh_248 : SH 248 = (22, 96) := by decide +kernel
theorem sh_249 : SH 249 = (20, 96) := by decide +kernel
theorem sh_250 : SH 250 = (1, 5) := by decide +kernel
theorem sh_251 : SH 251 = (20, 96) := by decide +kernel
theorem sh_252 : SH 252 = (20, 96) := by decide +kernel
theorem sh_253 : SH 253 = (20, 192) := by decide +kernel
theorem sh_254 : SH 254 = (20, 192) := by decide +kernel
theorem sh_255 : SH 255 = (2, 13) := by decide +kernel
theorem sh_256 : SH 256 = (20, 8) := by decide +kernel
theorem sh_257 : SH 257 = (25, 8) := by decide +kernel
theorem sh_258 : SH 258 = (20, 8) := by decide +kernel
theorem sh_259 : SH 259 = (20, 8) := by decide +kernel
theorem sh_260 : SH 260 = (20, 8) := by decide +kernel
theorem sh_261 : SH 261 = (20, 8) := by decide +kernel
theorem sh_262 : SH 262 = (20, 8) := by decide +kernel
theorem sh_263 : SH 263 = (20, 8) := by decide +kernel
theorem sh_264 : SH 264 = (20, 8) := by decide +kernel
theorem sh_265 : SH 265 = (20, 8) := by decide +kernel
theorem sh_266 : SH 266 = (20, 72) := by decide +kernel
theorem sh_267 : SH 267 = (20, 72) := by decide +kernel
theorem sh_268 : SH 268 = (20, 8) := by decide +kernel
theorem sh_269 : SH 269 = (20, 8) := by decide +kernel
theorem sh_270 : SH 270 = (20, 8) := by decide +kernel
theorem sh_271 : SH 271 = (20, 8) := by decide +kernel
theorem sh_272 : SH 272 = (20, 8) := by decide +kernel
theorem sh_273 : SH 273 = (20, 8) := by decide +kernel
theorem sh_274 : SH 274 = (20, 8) := by decide +kernel
theorem sh_275 : SH 275 = (0, 7) := by decide +kernel
theorem sh_276 : SH 276 = (20, 96) := by decide +kernel
theorem sh_277 : SH 277 = (20, 96) := by decide +kernel
theorem sh_278 : SH 278 = (20, 96) := by decide +kernel
theorem sh_279 : SH 279 = (20, 72) := by decide +kernel
theorem sh_280 : SH 280 = (20, 8) := by decide +kernel
theorem sh_281 : SH 281 = (20, 8) := by decide +kernel
theorem sh_282 : SH 282 = (0, 7) := by decide +kernel
theorem sh_283 : SH 283 = (20, 96) := by decide +kernel
theorem sh_284 : SH 284 = (20, 96) := by decide +kernel
theorem sh_285 : SH 285 = (20, 96) := by decide +kernel
theorem sh_286 : SH 286 = (20, 72) := by decide +kernel
theorem sh_287 : SH 287 = (20, 8) := by decide +kernel
theorem sh_288 : SH 288 = (20, 8) := by decide +kernel
theorem sh_289 : SH 289 = (0, 7) := by decide +kernel
theorem sh_290 : SH 290 = (20, 96) := by decide +kernel
theorem sh_291 : SH 291 = (20, 96) := by decide +kernel
theorem sh_292 : SH 292 = (20, 96) := by decide +kernel
theorem sh_293 : SH 293 = (20, 72) := by decide +kernel
theorem sh_294 : SH 294 = (20, 8) := by decide +kernel
theorem sh_295 : SH 295 = (20, 8) := by decide +kernel
theorem sh_296 : SH 296 = (11, 81) := by decide +kernel
theorem sh_297 : SH 297 = (21, 2000) := by decide +kernel
theorem sh_298 : SH 298 = (21, 2000) := by decide +kernel
theorem sh_299 : SH 299 = (20, 403) := by decide +kernel
theorem sh_300 : SH 300 = (20, 403) := by decide +kernel
theorem sh_301 : SH 301 = (20, 403) := by decide +kernel
theorem sh_302 : SH 302 = (23, 403) := by decide +kernel
theorem sh_303 : SH 303 = (23, 17) := by decide +kernel
theorem sh_304 : SH 304 = (23, 8) := by decide +kernel
theorem sh_305 : SH 305 = (20, 2) := by decide +kernel
theorem sh_306 : SH 306 = (20, 2) := by decide +kernel
theorem sh_307 : SH 307 = (20, 2) := by decide +kernel
theorem sh_308 : SH 308 = (20, 192) := by decide +kernel
theorem sh_309 : SH 309 = (20, 16) := by decide +kernel
theorem sh_310 : SH 310 = (20, 2) := by decide +kernel
theorem sh_311 : SH 311 = (20, 2) := by decide +kernel
theorem sh_312 : SH 312 = (20, 16) := by decide +kernel
theorem sh_313 : SH 313 = (20, 16) := by decide +kernel
theorem sh_314 : SH 314 = (20, 16) := by decide +kernel
theorem sh_315 : SH 315 = (20, 16) := by decide +kernel
theorem sh_316 : SH 316 = (20, 2) := by decide +kernel
theorem sh_317 : SH 317 = (20, 16) := by decide +kernel
theorem sh_318 : SH 318 = (20, 16) := by decide +kernel
theorem sh_319 : SH 319 = (20, 4) := by decide +kernel
theorem sh_320 : SH 320 = (20, 4) := by decide +kernel
theorem sh_321 : SH 321 = (22, 260) := by decide +kernel
theorem sh_322 : SH 322 = (20, 260) := by decide +kernel
theorem sh_323 : SH 323 = (20, 260) := by decide +kernel
theorem sh_324 : SH 324 = (20, 260) := by decide +kernel
theorem sh_325 : SH 325 = (20, 260) := by decide +kernel
theorem sh_326 : SH 326 = (20, 840) := by decide +kernel
theorem sh_327 : SH 327 = (20, 840) := by decide +kernel
theorem sh_328 : SH 328 = (20, 64) := by decide +kernel
theorem sh_329 : SH 329 = (20, 6) := by decide +kernel
theorem sh_330 : SH 330 = (20, 400) := by decide +kernel
theorem sh_331 : SH 331 = (20, 250) := by decide +kernel
theorem sh_332 : SH 332 = (20, 250) := by decide +kernel
theorem sh_333 : SH 333 = (20, 96) := by decide +kernel
theorem sh_334 : SH 334 = (20, 6250) := by decide +kernel
theorem sh_335 : SH 335 = (22, 96) := by decide +kernel
theorem sh_336 : SH 336 = (20, 96) := by decide +kernel
theorem sh_337 : SH 337 = (20, 97) := by decide +kernel
theorem sh_338 : SH 338 = (20, 96) := by decide +kernel
theorem sh_339 : SH 339 = (20, 900) := by decide +kernel
theorem sh_340 : SH 340 = (20, 8) := by decide +kernel
theorem sh_341 : SH 341 = (20, 8) := by decide +kernel
theorem sh_342 : SH 342 = (20, 11) := by decide +kernel
theorem sh_343 : SH 343 = (20, 8) := by decide +kernel
theorem sh_344 : SH 344 = (22, 96) := by decide +kernel
theorem sh_345 : SH 345 = (22, 96) := by decide +kernel
theorem sh_346 : SH 346 = (22, 9216) := by decide +kernel
theorem sh_347 : SH 347 = (22, 96) := by decide +kernel
theorem sh_348 : SH 348 = (20, 192) := by decide +kernel
theorem sh_349 : SH 349 = (20, 192) := by decide +kernel
theorem sh_350 : SH 350 = (20, 20) := by decide +kernel
theorem sh_351 : SH 351 = (20, 20) := by decide +kernel
theorem sh_352 : SH 352 = (22, 3) := by decide +kernel
theorem sh_353 : SH 353 = (20, 750) := by decide +kernel
theorem ly_1_0 {G : Nat → Nat → Nat} (h : lyX G) : G 1 0 = 2 := h (1, 0, 2) (by decide +kernel)
theorem ly_1_1 {G : Nat → Nat → Nat} (h : lyX G) : G 1 1 = 4 := h (1, 1, 4) (by decide +kernel)
theorem ly_1_5 {G : Nat → Nat → Nat} (h : lyX G) : G 1 5 = 49 := h (1, 5, 49) (by decide +kernel)
theorem ly_1_6 {G : Nat → Nat → Nat} (h : lyX G) : G 1 6 = 56 := h (1, 6, 56) (by decide +kernel)
theorem ly_1_7 {G : Nat → Nat → Nat} (h : lyX G) : G 1 7 = 63 := h (1, 7, 63) (by decide +kernel)
theorem ly_1_8 {G : Nat → Nat → Nat} (h : lyX G) : G 1 8 = 240 := h (1, 8, 240) (by decide +kernel)
theorem ly_1_9 {G : Nat → Nat → Nat} (h : lyX G) : G 1 9 = 241 := h (1, 9, 241) (by decide +kernel)
theorem ly_1_10 {G : Nat → Nat → Nat} (h : lyX G) : G 1 10 = 242 := h (1, 10, 242) (by decide +kernel)
theorem ly_1_11 {G : Nat → Nat → Nat} (h : lyX G) : G 1 11 = 243 := h (1, 11, 243) (by decide +kernel)
theorem ly_1_13 {G : Nat → Nat → Nat} (h : lyX G) : G 1 13 = 244 := h (1, 13, 244) (by decide +kernel)
theorem ly_1_14 {G : Nat → Nat → Nat} (h : lyX G) : G 1 14 = 250 := h (1, 14, 250) (by decide +kernel)
theorem ly_1_15 {G : Nat → Nat → Nat} (h : lyX G) : G 1 15 = 255 := h (1, 15, 255) (by decide +kernel)
theorem ly_2_0 {G : Nat → Nat → Nat} (h : lyX G) : G 2 0 = 3 := h (2, 0, 3) (by decide +kernel)
theorem ly_4_0 {G : Nat → Nat → Nat} (h : lyX G) : G 4 0 = 5 := h (4, 0, 5) (by decide +kernel)
theorem ly_4_7 {G : Nat → Nat → Nat} (h : lyX G) : G 4 7 = 10 := h (4, 7, 10) (by decide +kernel)
theorem ly_5_0 {G : Nat → Nat → Nat} (h : lyX G) : G 5 0 = 6 := h (5, 0, 6) (by decide +kernel)
theorem ly_5_1 {G : Nat → Nat → Nat} (h : lyX G) : G 5 1 = 7 := h (5, 1, 7) (by decide +kernel)
theorem ly_5_2 {G : Nat → Nat → Nat} (h : lyX G) : G 5 2 = 8 := h (5, 2, 8) (by decide +kernel)
theorem ly_5_3 {G : Nat → Nat → Nat} (h : lyX G) : G 5 3 = 9 := h (5, 3, 9) (by decide +kernel)
theorem ly_63_0 {G : Nat → Nat → Nat} (h : lyX G) : G 63 0 = 64 := h (63, 0, 64) (by decide +kernel)
theorem ly_244_0 {G : Nat → Nat → Nat} (h : lyX G) : G 244 0 = 245 := h (244, 0, 245) (by decide +kernel)
theorem ly_244_1 {G : Nat → Nat → Nat} (h : lyX G) : G 244 1 = 246 := h (244, 1, 246) (by decide +kernel)
theorem ly_244_3 {G : Nat → Nat → Nat} (h : lyX G) : G 244 3 = 247 := h (244, 3, 247) (by decide +kernel)
theorem ly_244_4 {G : Nat → Nat → Nat} (h : lyX G) : G 244 4 = 248 := h (244, 4, 248) (by decide +kernel)
theorem ly_244_5 {G : Nat → Nat → Nat} (h : lyX G) : G 244 5 = 249 := h (244, 5, 249) (by decide +kernel)
theorem ly_250_0 {G : Nat → Nat → Nat} (h : lyX G) : G 250 0 = 251 := h (250, 0, 251) (by decide +kernel)
theorem ly_250_1 {G : Nat → Nat → Nat} (h : lyX G) : G 250 1 = 252 := h (250, 1, 252) (by decide +kernel)
theorem ly_250_2 {G : Nat → Nat → Nat} (h : lyX G) : G 250 2 = 253 := h (250, 2, 253) (by decide +kernel)
theorem ly_250_3 {G : Nat → Nat → Nat} (h : lyX G) : G 250 3 = 254 := h (250, 3, 254) (by decide +kernel)
theorem ly_255_1 {G : Nat → Nat → Nat} (h : lyX G) : G 255 1 = 256 := h (255, 1, 256) (by decide +kernel)
theorem ly_255_2 {G : Nat → Nat → Nat} (h : lyX G) : G 255 2 = 257 := h (255, 2, 257) (by decide +kernel)
theorem ly_255_3 {G : Nat → Nat → Nat} (h : lyX G) : G 255 3 = 266 := h (255, 3, 266) (by decide +kernel)
theorem ly_255_4 {G : Nat → Nat → Nat} (h : lyX G) : G 255 4 = 267 := h (255, 4, 267) (by decide +kernel)
theorem ly_255_6 {G : Nat → Nat → Nat} (h : lyX G) : G 255 6 = 268 := h (255, 6, 268) (by decide +kernel)
theorem ly_255_7 {G : Nat → Nat → Nat} (h : lyX G) : G 255 7 = 269 := h (255, 7, 269) (by decide +kernel)
theorem ly_255_8 {G : Nat → Nat → Nat} (h : lyX G) : G 255 8 = 270 := h (255, 8, 270) (by decide +kernel)
theorem ly_255_9 {G : Nat → Nat → Nat} (h : lyX G) : G 255 9 = 271 := h (255, 9, 271) (by decide +kernel)
theorem ly_255_10 {G : Nat → Nat → Nat} (h : lyX G) : G 255 10 = 272 := h (255, 10, 272) (by decide +kernel)
theorem ly_255_11 {G : Nat → Nat → Nat} (h : lyX G) : G 255 11 = 273 := h (255, 11, 273) (by decide +kernel)
theorem ly_255_12 {G : Nat → Nat → Nat} (h : lyX G) : G 255 12 = 274 := h (255, 12, 274) (by decide +kernel)
theorem ly_296_1 {G : Nat → Nat → Nat} (h : lyM G) : G 296 1 = 297 := h (296, 1, 297) (by decide +kernel)
theorem ly_296_3 {G : Nat → Nat → Nat} (h : lyM G) : G 296 3 = 298 := h (296, 3, 298) (by decide +kernel)
theorem ly_296_5 {G : Nat → Nat → Nat} (h : lyM G) : G 296 5 = 299 := h (296, 5, 299) (by decide +kernel)
theorem ly_296_6 {G : Nat → Nat → Nat} (h : lyM G) : G 296 6 = 300 := h (296, 6, 300) (by decide +kernel)
theorem ly_296_7 {G : Nat → Nat → Nat} (h : lyM G) : G 296 7 = 301 := h (296, 7, 301) (by decide +kernel)
theorem ly_296_8 {G : Nat → Nat → Nat} (h : lyM G) : G 296 8 = 302 := h (296, 8, 302) (by decide +kernel)
theorem ly_296_9 {G : Nat → Nat → Nat} (h : lyM G) : G 296 9 = 303 := h (296, 9, 303) (by decide +kernel)
theorem ly_296_21 {G : Nat → Nat → Nat} (h : lyM G) : G 296 21 = 304 := h (296, 21, 304) (by decide +kernel)
theorem ly_296_22 {G : Nat → Nat → Nat} (h : lyM G) : G 296 22 = 305 := h (296, 22, 305) (by decide +kernel)
theorem ly_296_23 {G : Nat → Nat → Nat} (h : lyM G) : G 296 23 = 306 := h (296, 23, 306) (by decide +kernel)
theorem ly_296_24 {G : Nat → Nat → Nat} (h : lyM G) : G 296 24 = 307 := h (296, 24, 307) (by decide +kernel)
theorem ly_296_25 {G : Nat → Nat → Nat} (h : lyM G) : G 296 25 = 308 := h (296, 25, 308) (by decide +kernel)
theorem ly_296_26 {G : Nat → Nat → Nat} (h : lyM G) : G 296 26 = 309 := h (296, 26, 309) (by decide +kernel)
theorem ly_296_27 {G : Nat → Nat → Nat} (h : lyM G) : G 296 27 = 310 := h (296, 27, 310) (by decide +kernel)
theorem ly_296_28 {G : Nat → Nat → Nat} (h : lyM G) : G 296 28 = 311 := h (296, 28, 311) (by decide +kernel)
theorem ly_296_29 {G : Nat → Nat → Nat} (h : lyM G) : G 296 29 = 312 := h (296, 29, 312) (by decide +kernel)
theorem ly_296_30 {G : Nat → Nat → Nat} (h : lyM G) : G 296 30 = 313 := h (296, 30, 313) (by decide +kernel)
theorem ly_296_31 {G : Nat → Nat → Nat} (h : lyM G) : G 296 31 = 314 := h (296, 31, 314) (by decide +kernel)
theorem ly_296_32 {G : Nat → Nat → Nat} (h : lyM G) : G 296 32 = 315 := h (296, 32, 315) (by decide +kernel)
theorem ly_296_33 {G : Nat → Nat → Nat} (h : lyM G) : G 296 33 = 316 := h (296, 33, 316) (by decide +kernel)
theorem ly_296_34 {G : Nat → Nat → Nat} (h : lyM G) : G 296 34 = 317 := h (296, 34, 317) (by decide +kernel)
theorem ly_296_35 {G : Nat → Nat → Nat} (h : lyM G) : G 296 35 = 318 := h (296, 35, 318) (by decide +kernel)
theorem ly_296_36 {G : Nat → Nat → Nat} (h : lyM G) : G 296 36 = 319 := h (296, 36, 319) (by decide +kernel)
theorem ly_296_37 {G : Nat → Nat → Nat} (h : lyM G) : G 296 37 = 320 := h (296, 37, 320) (by decide +kernel)
theorem ly_296_39 {G : Nat → Nat → Nat} (h : lyM G) : G 296 39 = 321 := h (296, 39, 321) (by decide +kernel)
theorem ly_296_40 {G : Nat → Nat → Nat} (h : lyM G) : G 296 40 = 322 := h (296, 40, 322) (by decide +kernel)
theorem ly_296_41 {G : Nat → Nat → Nat} (h : lyM G) : G 296 41 = 323 := h (296, 41, 323) (by decide +kernel)
theorem ly_296_42 {G : Nat → Nat → Nat} (h : lyM G) : G 296 42 = 324 := h (296, 42, 324) (by decide +kernel)
theorem ly_296_43 {G : Nat → Nat → Nat} (h : lyM G) : G 296 43 = 325 := h (296, 43, 325) (by decide +kernel)
theorem ly_296_45 {G : Nat → Nat → Nat} (h : lyM G) : G 296 45 = 326 := h (296, 45, 326) (by decide +kernel)
theorem ly_296_46 {G : Nat → Nat → Nat} (h : lyM G) : G 296 46 = 327 := h (296, 46, 327) (by decide +kernel)
theorem ly_296_47 {G : Nat → Nat → Nat} (h : lyM G) : G 296 47 = 328 := h (296, 47, 328) (by decide +kernel)
theorem ly_296_49 {G : Nat → Nat → Nat} (h : lyM G) : G 296 49 = 329 := h (296, 49, 329) (by decide +kernel)
theorem ly_296_50 {G : Nat → Nat → Nat} (h : lyM G) : G 296 50 = 330 := h (296, 50, 330) (by decide +kernel)
theorem ly_296_52 {G : Nat → Nat → Nat} (h : lyM G) : G 296 52 = 331 := h (296, 52, 331) (by decide +kernel)
theorem ly_296_53 {G : Nat → Nat → Nat} (h : lyM G) : G 296 53 = 332 := h (296, 53, 332) (by decide +kernel)
theorem ly_296_54 {G : Nat → Nat → Nat} (h : lyM G) : G 296 54 = 333 := h (296, 54, 333) (by decide +kernel)
theorem ly_296_56 {G : Nat → Nat → Nat} (h : lyM G) : G 296 56 = 334 := h (296, 56, 334) (by decide +kernel)
theorem ly_296_57 {G : Nat → Nat → Nat} (h : lyM G) : G 296 57 = 335 := h (296, 57, 335) (by decide +kernel)
theorem ly_296_58 {G : Nat → Nat → Nat} (h : lyM G) : G 296 58 = 336 := h (296, 58, 336) (by decide +kernel)
theorem ly_296_59 {G : Nat → Nat → Nat} (h : lyM G) : G 296 59 = 337 := h (296, 59, 337) (by decide +kernel)
theorem ly_296_61 {G : Nat → Nat → Nat} (h : lyM G) : G 296 61 = 338 := h (296, 61, 338) (by decide +kernel)
theorem ly_296_62 {G : Nat → Nat → Nat} (h : lyM G) : G 296 62 = 339 := h (296, 62, 339) (by decide +kernel)
theorem ly_296_64 {G : Nat → Nat → Nat} (h : lyM G) : G 296 64 = 340 := h (296, 64, 340) (by decide +kernel)
theorem ly_296_65 {G : Nat → Nat → Nat} (h : lyM G) : G 296 65 = 341 := h (296, 65, 341) (by decide +kernel)
theorem ly_296_66 {G : Nat → Nat → Nat} (h : lyM G) : G 296 66 = 342 := h (296, 66, 342) (by decide +kernel)
theorem ly_296_67 {G : Nat → Nat → Nat} (h : lyM G) : G 296 67 = 343 := h (296, 67, 343) (by decide +kernel)
theorem ly_296_69 {G : Nat → Nat → Nat} (h : lyM G) : G 296 69 = 344 := h (296, 69, 344) (by decide +kernel)
theorem ly_296_70 {G : Nat → Nat → Nat} (h : lyM G) : G 296 70 = 345 := h (296, 70, 345) (by decide +kernel)
theorem ly_296_71 {G : Nat → Nat → Nat} (h : lyM G) : G 296 71 = 346 := h (296, 71, 346) (by decide +kernel)
theorem ly_296_72 {G : Nat → Nat → Nat} (h : lyM G) : G 296 72 = 347 := h (296, 72, 347) (by decide +kernel)
theorem ly_296_73 {G : Nat → Nat → Nat} (h : lyM G) : G 296 73 = 348 := h (296, 73, 348) (by decide +kernel)
theorem ly_296_74 {G : Nat → Nat → Nat} (h : lyM G) : G 296 74 = 349 := h (296, 74, 349) (by decide +kernel)
theorem ly_296_77 {G : Nat → Nat → Nat} (h : lyM G) : G 296 77 = 350 := h (296, 77, 350) (by decide +kernel)
theorem ly_296_78 {G : Nat → Nat → Nat} (h : lyM G) : G 296 78 = 351 := h (296, 78, 351) (by decide +kernel)
theorem ly_296_79 {G : Nat → Nat → Nat} (h : lyM G) : G 296 79 = 352 := h (296, 79, 352) (by decide +kernel)
theorem ly_296_80 {G : Nat → Nat → Nat} (h : lyM G) : G 296 80 = 353 := h (296, 80, 353) (by decide +kernel)
