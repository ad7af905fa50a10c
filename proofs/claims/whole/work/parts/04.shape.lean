/-! THE SHAPE OF THE WORLD behind the two constructors: cells by their numbers (SpoutSpring 0, SpoutSpringModel 373) -/
def inOfB (m : Nat) : Bool := (mt m).2.2.2.2.2.2.2.2.2.2.2.1
def YKL : List Nat := [20, 0, 18, 0, 4, 17, 0, 3, 0, 0, 0, 0, 0, 0, 0, 0, 0, 13, 0, 0, 0, 0, 13, 0, 0, 0, 0, 19, 12, 17, 0, 3, 0, 0, 0, 0, 0, 0, 0, 0, 0, 13, 0, 0, 0, 0, 0, 0, 0, 0, 0, 0, 0, 0, 0, 0, 0, 0, 15, 0, 0, 0, 15, 0, 0, 0, 16, 0, 0, 0, 0, 10, 0, 0, 2, 5, 0, 0, 0, 0, 0, 0, 0, 0, 0, 0, 0, 0, 0, 0, 0, 0, 0, 0, 0, 0, 0, 0, 0, 0, 0, 0, 0, 0, 0, 0, 0, 0, 0, 0, 0, 0, 0, 0, 0, 0, 0, 0, 0, 0, 0, 0, 0, 0, 0, 0, 0, 0, 0, 0, 0, 0, 0, 0, 0, 0, 0, 0, 0, 0, 0, 0, 0, 0, 0, 0, 0, 0, 0, 0, 0, 0, 0, 0, 0, 0, 0, 0, 0, 0, 0, 0, 0, 0, 0, 0, 0, 0, 0, 0, 0, 0, 0, 0, 0, 0, 5, 0, 0, 0, 0, 0, 0, 0, 14, 0, 0, 2, 0, 11, 17, 0, 3, 0, 0, 0, 0, 0, 0, 0, 0, 0, 12, 17, 0, 3, 0, 0, 0, 0, 0, 0, 0, 0, 0, 13, 0, 0, 0, 0, 0, 0, 0, 0, 0, 0, 0, 0, 0, 0, 0, 0, 0, 0, 0, 11, 17, 0, 3, 0, 0, 0, 0, 0, 0, 0, 0, 0, 12, 17, 0, 3, 0, 0, 0, 0, 0, 0, 0, 0, 0, 13, 0, 0, 0, 0, 0, 0, 0, 0, 0, 0, 0, 0, 0, 0, 0, 0, 0, 0, 0, 11, 17, 0, 3, 0, 0, 0, 0, 0, 0, 0, 0, 0, 12, 17, 0, 3, 0, 0, 0, 0, 0, 0, 0, 0, 0, 13, 0, 0, 0, 0, 0, 0, 0, 0, 0, 0, 0, 0, 0, 0, 0, 0, 0, 0, 0, 11, 17, 0, 3, 0, 0, 0, 0, 0, 0, 0, 0, 0, 12, 17, 0, 3, 0, 0, 0, 0, 0, 0, 0, 0, 0, 13, 0, 0, 0, 0, 0, 0, 0, 0, 0, 0, 0, 0, 0, 0, 0, 0, 0, 0, 0, 21, 1, 1, 0, 0, 0, 0, 0, 0, 0, 0, 0, 0, 0, 0, 0, 3, 0, 0, 0, 0, 0, 0, 0, 2, 0, 0, 0, 0, 0, 0, 0, 0, 0, 0, 0, 0, 0, 0, 0, 0, 0, 0, 0, 0, 0, 2, 0, 0, 0, 0]
def YLL : List Int := [0, 900, 0, 0, 4, 0, 8, 8, 8, 8, 8, 8, 8, 8, 4, 4, 4, 0, 300, 3, 3, 41, 0, 300, 3, 3, 41, 0, 0, 0, 8, 8, 8, 8, 8, 8, 8, 8, 4, 4, 4, 0, 300, 3, 3, 41, 8, 8, 8, 8, 8, 8, 8, 8, 8, 1001, 8, 8, 0, 200, 200, 200, 0, 200, 200, 200, 0, 60, 60, 60, 60, 0, 60, 60, 100, 100, 100, 100, 100, 100, 100, 100, 100, 100, 100, 100, 100, 100, 100, 100, 100, 100, 100, 100, 100, 100, 100, 100, 100, 100, 100, 100, 100, 100, 100, 100, 100, 100, 100, 100, 100, 100, 100, 100, 100, 100, 100, 100, 100, 100, 100, 100, 100, 100, 100, 100, 100, 100, 100, 100, 100, 100, 100, 100, 100, 100, 100, 100, 100, 100, 100, 100, 100, 100, 100, 100, 100, 100, 100, 100, 100, 100, 100, 100, 100, 100, 100, 100, 100, 100, 100, 100, 100, 100, 100, 100, 100, 100, 100, 100, 100, 100, 100, 100, 100, 100, 5, 101, 101, 101, 101, 101, 4, 4, 0, 40, 40, 40, 501, 0, 0, 8, 8, 8, 8, 8, 8, 8, 8, 4, 4, 4, 0, 0, 8, 8, 8, 8, 8, 8, 8, 8, 4, 4, 4, 0, 300, 3, 3, 41, 8, 8, 8, 8, 8, 8, 8, 8, 8, 8008, 8008, 1001, 1001, 1001, 1001, 0, 0, 8, 8, 8, 8, 8, 8, 8, 8, 4, 4, 4, 0, 0, 8, 8, 8, 8, 8, 8, 8, 8, 4, 4, 4, 0, 300, 3, 3, 41, 8, 8, 8, 8, 8, 8, 8, 8, 8, 8008, 8008, 1001, 1001, 1001, 1001, 0, 0, 8, 8, 8, 8, 8, 8, 8, 8, 4, 4, 4, 0, 0, 8, 8, 8, 8, 8, 8, 8, 8, 4, 4, 4, 0, 300, 3, 3, 41, 8, 8, 8, 8, 8, 8, 8, 8, 8, 8008, 8008, 1001, 1001, 1001, 1001, 0, 0, 8, 8, 8, 8, 8, 8, 8, 8, 4, 4, 4, 0, 0, 8, 8, 8, 8, 8, 8, 8, 8, 4, 4, 4, 0, 300, 3, 3, 41, 8, 8, 8, 8, 8, 8, 8, 8, 8, 8008, 8008, 1001, 1001, 1001, 1001, 0, 920, 900, 4, 5, 5, 40, 40, 40, 40, 40, 40, 40, 20, 20, 20, 40, 6, 6, 1000, 1000, 60, 60, 70, 6, 8, 8, 8, 8, 8, 8, 8, 200, 200, 200, 60, 60, 60, 60, 3782, 3782, 505, 505, 60, 40, 40, 40, 6400, 8008, 8008, 200]
def Y1 : Yy := (fun x => if 0 ≤ x then YKL.getD x.toNat 99 else 99, fun x => if 0 ≤ x then YLL.getD x.toNat 0 else 0, 424, 424, 135600)
def RCL : List (Int × Int × Int) := [(0, 0, 1), (0, 2, 2), (0, 3, 4), (0, 9, 27), (0, 10, 58), (0, 11, 62), (0, 12, 66), (0, 13, 71), (0, 14, 184), (5, 2, 6), (5, 3, 7), (5, 4, 8), (5, 5, 9), (5, 6, 10), (5, 7, 11), (5, 8, 12), (5, 9, 13), (5, 10, 14), (5, 11, 15), (5, 12, 16), (17, 2, 18), (17, 4, 19), (17, 5, 20), (17, 6, 21), (22, 2, 23), (22, 4, 24), (22, 5, 25), (22, 6, 26), (27, 0, 28), (27, 1, 55), (27, 2, 56), (27, 3, 57), (28, 3, 46), (28, 4, 47), (28, 5, 48), (28, 6, 49), (28, 7, 50), (28, 8, 51), (28, 9, 52), (28, 10, 53), (28, 11, 54), (29, 2, 30), (29, 3, 31), (29, 4, 32), (29, 5, 33), (29, 6, 34), (29, 7, 35), (29, 8, 36), (29, 9, 37), (29, 10, 38), (29, 11, 39), (29, 12, 40), (41, 2, 42), (41, 4, 43), (41, 5, 44), (41, 6, 45), (58, 0, 59), (58, 1, 60), (58, 2, 61), (62, 0, 63), (62, 1, 64), (62, 2, 65), (66, 2, 67), (66, 3, 68), (66, 4, 69), (66, 5, 70), (71, 6, 72), (71, 7, 73), (71, 8, 74), (71, 9, 75), (71, 10, 176), (71, 11, 182), (71, 12, 183), (184, 1, 185), (184, 2, 186), (184, 3, 187), (184, 4, 188), (189, 1, 202), (189, 2, 229), (189, 3, 230), (189, 4, 231), (189, 5, 232), (189, 6, 233), (189, 7, 234), (190, 2, 191), (190, 3, 192), (190, 4, 193), (190, 5, 194), (190, 6, 195), (190, 7, 196), (190, 8, 197), (190, 9, 198), (190, 10, 199), (190, 11, 200), (190, 12, 201), (202, 3, 220), (202, 4, 221), (202, 5, 222), (202, 6, 223), (202, 7, 224), (202, 8, 225), (202, 9, 226), (202, 10, 227), (202, 11, 228), (203, 2, 204), (203, 3, 205), (203, 4, 206), (203, 5, 207), (203, 6, 208), (203, 7, 209), (203, 8, 210), (203, 9, 211), (203, 10, 212), (203, 11, 213), (203, 12, 214), (215, 2, 216), (215, 4, 217), (215, 5, 218), (215, 6, 219), (235, 1, 248), (235, 2, 275), (235, 3, 276), (235, 4, 277), (235, 5, 278), (235, 6, 279), (235, 7, 280), (236, 2, 237), (236, 3, 238), (236, 4, 239), (236, 5, 240), (236, 6, 241), (236, 7, 242), (236, 8, 243), (236, 9, 244), (236, 10, 245), (236, 11, 246), (236, 12, 247), (248, 3, 266), (248, 4, 267), (248, 5, 268), (248, 6, 269), (248, 7, 270), (248, 8, 271), (248, 9, 272), (248, 10, 273), (248, 11, 274), (249, 2, 250), (249, 3, 251), (249, 4, 252), (249, 5, 253), (249, 6, 254), (249, 7, 255), (249, 8, 256), (249, 9, 257), (249, 10, 258), (249, 11, 259), (249, 12, 260), (261, 2, 262), (261, 4, 263), (261, 5, 264), (261, 6, 265), (281, 1, 294), (281, 2, 321), (281, 3, 322), (281, 4, 323), (281, 5, 324), (281, 6, 325), (281, 7, 326), (282, 2, 283), (282, 3, 284), (282, 4, 285), (282, 5, 286), (282, 6, 287), (282, 7, 288), (282, 8, 289), (282, 9, 290), (282, 10, 291), (282, 11, 292), (282, 12, 293), (294, 3, 312), (294, 4, 313), (294, 5, 314), (294, 6, 315), (294, 7, 316), (294, 8, 317), (294, 9, 318), (294, 10, 319), (294, 11, 320), (295, 2, 296), (295, 3, 297), (295, 4, 298), (295, 5, 299), (295, 6, 300), (295, 7, 301), (295, 8, 302), (295, 9, 303), (295, 10, 304), (295, 11, 305), (295, 12, 306), (307, 2, 308), (307, 4, 309), (307, 5, 310), (307, 6, 311), (327, 1, 340), (327, 2, 367), (327, 3, 368), (327, 4, 369), (327, 5, 370), (327, 6, 371), (327, 7, 372), (328, 2, 329), (328, 3, 330), (328, 4, 331), (328, 5, 332), (328, 6, 333), (328, 7, 334), (328, 8, 335), (328, 9, 336), (328, 10, 337), (328, 11, 338), (328, 12, 339), (340, 3, 358), (340, 4, 359), (340, 5, 360), (340, 6, 361), (340, 7, 362), (340, 8, 363), (340, 9, 364), (340, 10, 365), (340, 11, 366), (341, 2, 342), (341, 3, 343), (341, 4, 344), (341, 5, 345), (341, 6, 346), (341, 7, 347), (341, 8, 348), (341, 9, 349), (341, 10, 350), (341, 11, 351), (341, 12, 352), (353, 2, 354), (353, 4, 355), (353, 5, 356), (353, 6, 357), (373, 0, 374), (373, 1, 375), (373, 11, 376), (373, 12, 377), (373, 13, 378), (373, 14, 379), (373, 15, 380), (373, 16, 381), (373, 17, 382), (373, 18, 383), (373, 19, 384), (373, 20, 385), (373, 21, 386), (373, 22, 387), (373, 23, 388), (373, 24, 389), (373, 27, 390), (373, 28, 391), (373, 29, 392), (373, 30, 393), (373, 31, 394), (373, 32, 395), (373, 33, 396), (373, 34, 397), (373, 41, 398), (373, 42, 399), (373, 43, 400), (373, 44, 401), (373, 45, 402), (373, 46, 403), (373, 47, 404), (373, 58, 405), (373, 59, 406), (373, 60, 407), (373, 63, 408), (373, 64, 409), (373, 65, 410), (373, 66, 411), (373, 67, 412), (373, 68, 413), (373, 69, 414), (373, 70, 415), (373, 71, 416), (373, 75, 417), (373, 76, 418), (373, 77, 419), (373, 79, 420), (373, 86, 421), (373, 87, 422), (373, 88, 423)]
/-- the references that no call changes -/
def RS (R : Fn2) : Prop := (∀ q ∈ RCL, R q.1 q.2.1 = q.2.2) ∧ (∀ i, 0 ≤ i → i < 4 → R 4 i = 189 + 46 * i) ∧ (∀ i, 0 ≤ i → i < 100 → R 75 i = 76 + i) ∧ ∀ i, 0 ≤ i → i < 5 → R 176 i = 177 + i
def At_Spring (o : Int) : Prop := o = 5 ∨ o = 29 ∨ o = 190 ∨ o = 203 ∨ o = 236 ∨ o = 249 ∨ o = 282 ∨ o = 295 ∨ o = 328 ∨ o = 341
def At_Laws (o : Int) : Prop := o = 17 ∨ o = 22 ∨ o = 41 ∨ o = 215 ∨ o = 261 ∨ o = 307 ∨ o = 353
def At_Flow (o : Int) : Prop := o = 28 ∨ o = 202 ∨ o = 248 ∨ o = 294 ∨ o = 340
def At_Plays (o : Int) : Prop := o = 58 ∨ o = 62
def At_Course (o : Int) : Prop := o = 189 ∨ o = 235 ∨ o = 281 ∨ o = 327
theorem ly_Spring {o : Int} (h : At_Spring o) : Y1.1 o = 17 := by rcases h with rfl | rfl | rfl | rfl | rfl | rfl | rfl | rfl | rfl | rfl <;> decide +kernel
theorem rf_Spring_2 {o : Int} {R : Fn2} (hR : RS R) (h : At_Spring o) : R o 2 = o + 1 := by rcases h with rfl | rfl | rfl | rfl | rfl | rfl | rfl | rfl | rfl | rfl <;>  first | exact hR.1 (5, 2, 6) (by decide +kernel) | exact hR.1 (29, 2, 30) (by decide +kernel) | exact hR.1 (190, 2, 191) (by decide +kernel) | exact hR.1 (203, 2, 204) (by decide +kernel) | exact hR.1 (236, 2, 237) (by decide +kernel) | exact hR.1 (249, 2, 250) (by decide +kernel) | exact hR.1 (282, 2, 283) (by decide +kernel) | exact hR.1 (295, 2, 296) (by decide +kernel) | exact hR.1 (328, 2, 329) (by decide +kernel) | exact hR.1 (341, 2, 342) (by decide +kernel)
theorem la_Spring_2 {o : Int} (h : At_Spring o) : Y1.1 (o + 1) = 0 := by rcases h with rfl | rfl | rfl | rfl | rfl | rfl | rfl | rfl | rfl | rfl <;> decide +kernel
theorem ln_Spring_2 {o : Int} (h : At_Spring o) : Y1.2.1 (o + 1) = 8 := by rcases h with rfl | rfl | rfl | rfl | rfl | rfl | rfl | rfl | rfl | rfl <;> decide +kernel
theorem rf_Spring_3 {o : Int} {R : Fn2} (hR : RS R) (h : At_Spring o) : R o 3 = o + 2 := by rcases h with rfl | rfl | rfl | rfl | rfl | rfl | rfl | rfl | rfl | rfl <;>  first | exact hR.1 (5, 3, 7) (by decide +kernel) | exact hR.1 (29, 3, 31) (by decide +kernel) | exact hR.1 (190, 3, 192) (by decide +kernel) | exact hR.1 (203, 3, 205) (by decide +kernel) | exact hR.1 (236, 3, 238) (by decide +kernel) | exact hR.1 (249, 3, 251) (by decide +kernel) | exact hR.1 (282, 3, 284) (by decide +kernel) | exact hR.1 (295, 3, 297) (by decide +kernel) | exact hR.1 (328, 3, 330) (by decide +kernel) | exact hR.1 (341, 3, 343) (by decide +kernel)
theorem la_Spring_3 {o : Int} (h : At_Spring o) : Y1.1 (o + 2) = 3 := by rcases h with rfl | rfl | rfl | rfl | rfl | rfl | rfl | rfl | rfl | rfl <;> decide +kernel
theorem ln_Spring_3 {o : Int} (h : At_Spring o) : Y1.2.1 (o + 2) = 8 := by rcases h with rfl | rfl | rfl | rfl | rfl | rfl | rfl | rfl | rfl | rfl <;> decide +kernel
theorem rf_Spring_4 {o : Int} {R : Fn2} (hR : RS R) (h : At_Spring o) : R o 4 = o + 3 := by rcases h with rfl | rfl | rfl | rfl | rfl | rfl | rfl | rfl | rfl | rfl <;>  first | exact hR.1 (5, 4, 8) (by decide +kernel) | exact hR.1 (29, 4, 32) (by decide +kernel) | exact hR.1 (190, 4, 193) (by decide +kernel) | exact hR.1 (203, 4, 206) (by decide +kernel) | exact hR.1 (236, 4, 239) (by decide +kernel) | exact hR.1 (249, 4, 252) (by decide +kernel) | exact hR.1 (282, 4, 285) (by decide +kernel) | exact hR.1 (295, 4, 298) (by decide +kernel) | exact hR.1 (328, 4, 331) (by decide +kernel) | exact hR.1 (341, 4, 344) (by decide +kernel)
theorem la_Spring_4 {o : Int} (h : At_Spring o) : Y1.1 (o + 3) = 0 := by rcases h with rfl | rfl | rfl | rfl | rfl | rfl | rfl | rfl | rfl | rfl <;> decide +kernel
theorem ln_Spring_4 {o : Int} (h : At_Spring o) : Y1.2.1 (o + 3) = 8 := by rcases h with rfl | rfl | rfl | rfl | rfl | rfl | rfl | rfl | rfl | rfl <;> decide +kernel
theorem rf_Spring_5 {o : Int} {R : Fn2} (hR : RS R) (h : At_Spring o) : R o 5 = o + 4 := by rcases h with rfl | rfl | rfl | rfl | rfl | rfl | rfl | rfl | rfl | rfl <;>  first | exact hR.1 (5, 5, 9) (by decide +kernel) | exact hR.1 (29, 5, 33) (by decide +kernel) | exact hR.1 (190, 5, 194) (by decide +kernel) | exact hR.1 (203, 5, 207) (by decide +kernel) | exact hR.1 (236, 5, 240) (by decide +kernel) | exact hR.1 (249, 5, 253) (by decide +kernel) | exact hR.1 (282, 5, 286) (by decide +kernel) | exact hR.1 (295, 5, 299) (by decide +kernel) | exact hR.1 (328, 5, 332) (by decide +kernel) | exact hR.1 (341, 5, 345) (by decide +kernel)
theorem la_Spring_5 {o : Int} (h : At_Spring o) : Y1.1 (o + 4) = 0 := by rcases h with rfl | rfl | rfl | rfl | rfl | rfl | rfl | rfl | rfl | rfl <;> decide +kernel
theorem ln_Spring_5 {o : Int} (h : At_Spring o) : Y1.2.1 (o + 4) = 8 := by rcases h with rfl | rfl | rfl | rfl | rfl | rfl | rfl | rfl | rfl | rfl <;> decide +kernel
theorem rf_Spring_6 {o : Int} {R : Fn2} (hR : RS R) (h : At_Spring o) : R o 6 = o + 5 := by rcases h with rfl | rfl | rfl | rfl | rfl | rfl | rfl | rfl | rfl | rfl <;>  first | exact hR.1 (5, 6, 10) (by decide +kernel) | exact hR.1 (29, 6, 34) (by decide +kernel) | exact hR.1 (190, 6, 195) (by decide +kernel) | exact hR.1 (203, 6, 208) (by decide +kernel) | exact hR.1 (236, 6, 241) (by decide +kernel) | exact hR.1 (249, 6, 254) (by decide +kernel) | exact hR.1 (282, 6, 287) (by decide +kernel) | exact hR.1 (295, 6, 300) (by decide +kernel) | exact hR.1 (328, 6, 333) (by decide +kernel) | exact hR.1 (341, 6, 346) (by decide +kernel)
theorem la_Spring_6 {o : Int} (h : At_Spring o) : Y1.1 (o + 5) = 0 := by rcases h with rfl | rfl | rfl | rfl | rfl | rfl | rfl | rfl | rfl | rfl <;> decide +kernel
theorem ln_Spring_6 {o : Int} (h : At_Spring o) : Y1.2.1 (o + 5) = 8 := by rcases h with rfl | rfl | rfl | rfl | rfl | rfl | rfl | rfl | rfl | rfl <;> decide +kernel
theorem rf_Spring_7 {o : Int} {R : Fn2} (hR : RS R) (h : At_Spring o) : R o 7 = o + 6 := by rcases h with rfl | rfl | rfl | rfl | rfl | rfl | rfl | rfl | rfl | rfl <;>  first | exact hR.1 (5, 7, 11) (by decide +kernel) | exact hR.1 (29, 7, 35) (by decide +kernel) | exact hR.1 (190, 7, 196) (by decide +kernel) | exact hR.1 (203, 7, 209) (by decide +kernel) | exact hR.1 (236, 7, 242) (by decide +kernel) | exact hR.1 (249, 7, 255) (by decide +kernel) | exact hR.1 (282, 7, 288) (by decide +kernel) | exact hR.1 (295, 7, 301) (by decide +kernel) | exact hR.1 (328, 7, 334) (by decide +kernel) | exact hR.1 (341, 7, 347) (by decide +kernel)
theorem la_Spring_7 {o : Int} (h : At_Spring o) : Y1.1 (o + 6) = 0 := by rcases h with rfl | rfl | rfl | rfl | rfl | rfl | rfl | rfl | rfl | rfl <;> decide +kernel
theorem ln_Spring_7 {o : Int} (h : At_Spring o) : Y1.2.1 (o + 6) = 8 := by rcases h with rfl | rfl | rfl | rfl | rfl | rfl | rfl | rfl | rfl | rfl <;> decide +kernel
theorem rf_Spring_8 {o : Int} {R : Fn2} (hR : RS R) (h : At_Spring o) : R o 8 = o + 7 := by rcases h with rfl | rfl | rfl | rfl | rfl | rfl | rfl | rfl | rfl | rfl <;>  first | exact hR.1 (5, 8, 12) (by decide +kernel) | exact hR.1 (29, 8, 36) (by decide +kernel) | exact hR.1 (190, 8, 197) (by decide +kernel) | exact hR.1 (203, 8, 210) (by decide +kernel) | exact hR.1 (236, 8, 243) (by decide +kernel) | exact hR.1 (249, 8, 256) (by decide +kernel) | exact hR.1 (282, 8, 289) (by decide +kernel) | exact hR.1 (295, 8, 302) (by decide +kernel) | exact hR.1 (328, 8, 335) (by decide +kernel) | exact hR.1 (341, 8, 348) (by decide +kernel)
theorem la_Spring_8 {o : Int} (h : At_Spring o) : Y1.1 (o + 7) = 0 := by rcases h with rfl | rfl | rfl | rfl | rfl | rfl | rfl | rfl | rfl | rfl <;> decide +kernel
theorem ln_Spring_8 {o : Int} (h : At_Spring o) : Y1.2.1 (o + 7) = 8 := by rcases h with rfl | rfl | rfl | rfl | rfl | rfl | rfl | rfl | rfl | rfl <;> decide +kernel
theorem rf_Spring_9 {o : Int} {R : Fn2} (hR : RS R) (h : At_Spring o) : R o 9 = o + 8 := by rcases h with rfl | rfl | rfl | rfl | rfl | rfl | rfl | rfl | rfl | rfl <;>  first | exact hR.1 (5, 9, 13) (by decide +kernel) | exact hR.1 (29, 9, 37) (by decide +kernel) | exact hR.1 (190, 9, 198) (by decide +kernel) | exact hR.1 (203, 9, 211) (by decide +kernel) | exact hR.1 (236, 9, 244) (by decide +kernel) | exact hR.1 (249, 9, 257) (by decide +kernel) | exact hR.1 (282, 9, 290) (by decide +kernel) | exact hR.1 (295, 9, 303) (by decide +kernel) | exact hR.1 (328, 9, 336) (by decide +kernel) | exact hR.1 (341, 9, 349) (by decide +kernel)
theorem la_Spring_9 {o : Int} (h : At_Spring o) : Y1.1 (o + 8) = 0 := by rcases h with rfl | rfl | rfl | rfl | rfl | rfl | rfl | rfl | rfl | rfl <;> decide +kernel
theorem ln_Spring_9 {o : Int} (h : At_Spring o) : Y1.2.1 (o + 8) = 8 := by rcases h with rfl | rfl | rfl | rfl | rfl | rfl | rfl | rfl | rfl | rfl <;> decide +kernel
theorem rf_Spring_10 {o : Int} {R : Fn2} (hR : RS R) (h : At_Spring o) : R o 10 = o + 9 := by rcases h with rfl | rfl | rfl | rfl | rfl | rfl | rfl | rfl | rfl | rfl <;>  first | exact hR.1 (5, 10, 14) (by decide +kernel) | exact hR.1 (29, 10, 38) (by decide +kernel) | exact hR.1 (190, 10, 199) (by decide +kernel) | exact hR.1 (203, 10, 212) (by decide +kernel) | exact hR.1 (236, 10, 245) (by decide +kernel) | exact hR.1 (249, 10, 258) (by decide +kernel) | exact hR.1 (282, 10, 291) (by decide +kernel) | exact hR.1 (295, 10, 304) (by decide +kernel) | exact hR.1 (328, 10, 337) (by decide +kernel) | exact hR.1 (341, 10, 350) (by decide +kernel)
theorem la_Spring_10 {o : Int} (h : At_Spring o) : Y1.1 (o + 9) = 0 := by rcases h with rfl | rfl | rfl | rfl | rfl | rfl | rfl | rfl | rfl | rfl <;> decide +kernel
theorem ln_Spring_10 {o : Int} (h : At_Spring o) : Y1.2.1 (o + 9) = 4 := by rcases h with rfl | rfl | rfl | rfl | rfl | rfl | rfl | rfl | rfl | rfl <;> decide +kernel
theorem rf_Spring_11 {o : Int} {R : Fn2} (hR : RS R) (h : At_Spring o) : R o 11 = o + 10 := by rcases h with rfl | rfl | rfl | rfl | rfl | rfl | rfl | rfl | rfl | rfl <;>  first | exact hR.1 (5, 11, 15) (by decide +kernel) | exact hR.1 (29, 11, 39) (by decide +kernel) | exact hR.1 (190, 11, 200) (by decide +kernel) | exact hR.1 (203, 11, 213) (by decide +kernel) | exact hR.1 (236, 11, 246) (by decide +kernel) | exact hR.1 (249, 11, 259) (by decide +kernel) | exact hR.1 (282, 11, 292) (by decide +kernel) | exact hR.1 (295, 11, 305) (by decide +kernel) | exact hR.1 (328, 11, 338) (by decide +kernel) | exact hR.1 (341, 11, 351) (by decide +kernel)
theorem la_Spring_11 {o : Int} (h : At_Spring o) : Y1.1 (o + 10) = 0 := by rcases h with rfl | rfl | rfl | rfl | rfl | rfl | rfl | rfl | rfl | rfl <;> decide +kernel
theorem ln_Spring_11 {o : Int} (h : At_Spring o) : Y1.2.1 (o + 10) = 4 := by rcases h with rfl | rfl | rfl | rfl | rfl | rfl | rfl | rfl | rfl | rfl <;> decide +kernel
theorem rf_Spring_12 {o : Int} {R : Fn2} (hR : RS R) (h : At_Spring o) : R o 12 = o + 11 := by rcases h with rfl | rfl | rfl | rfl | rfl | rfl | rfl | rfl | rfl | rfl <;>  first | exact hR.1 (5, 12, 16) (by decide +kernel) | exact hR.1 (29, 12, 40) (by decide +kernel) | exact hR.1 (190, 12, 201) (by decide +kernel) | exact hR.1 (203, 12, 214) (by decide +kernel) | exact hR.1 (236, 12, 247) (by decide +kernel) | exact hR.1 (249, 12, 260) (by decide +kernel) | exact hR.1 (282, 12, 293) (by decide +kernel) | exact hR.1 (295, 12, 306) (by decide +kernel) | exact hR.1 (328, 12, 339) (by decide +kernel) | exact hR.1 (341, 12, 352) (by decide +kernel)
theorem la_Spring_12 {o : Int} (h : At_Spring o) : Y1.1 (o + 11) = 0 := by rcases h with rfl | rfl | rfl | rfl | rfl | rfl | rfl | rfl | rfl | rfl <;> decide +kernel
theorem ln_Spring_12 {o : Int} (h : At_Spring o) : Y1.2.1 (o + 11) = 4 := by rcases h with rfl | rfl | rfl | rfl | rfl | rfl | rfl | rfl | rfl | rfl <;> decide +kernel
theorem ly_Laws {o : Int} (h : At_Laws o) : Y1.1 o = 13 := by rcases h with rfl | rfl | rfl | rfl | rfl | rfl | rfl <;> decide +kernel
theorem rf_Laws_2 {o : Int} {R : Fn2} (hR : RS R) (h : At_Laws o) : R o 2 = o + 1 := by rcases h with rfl | rfl | rfl | rfl | rfl | rfl | rfl <;>  first | exact hR.1 (17, 2, 18) (by decide +kernel) | exact hR.1 (22, 2, 23) (by decide +kernel) | exact hR.1 (41, 2, 42) (by decide +kernel) | exact hR.1 (215, 2, 216) (by decide +kernel) | exact hR.1 (261, 2, 262) (by decide +kernel) | exact hR.1 (307, 2, 308) (by decide +kernel) | exact hR.1 (353, 2, 354) (by decide +kernel)
theorem la_Laws_2 {o : Int} (h : At_Laws o) : Y1.1 (o + 1) = 0 := by rcases h with rfl | rfl | rfl | rfl | rfl | rfl | rfl <;> decide +kernel
theorem ln_Laws_2 {o : Int} (h : At_Laws o) : Y1.2.1 (o + 1) = 300 := by rcases h with rfl | rfl | rfl | rfl | rfl | rfl | rfl <;> decide +kernel
theorem rf_Laws_4 {o : Int} {R : Fn2} (hR : RS R) (h : At_Laws o) : R o 4 = o + 2 := by rcases h with rfl | rfl | rfl | rfl | rfl | rfl | rfl <;>  first | exact hR.1 (17, 4, 19) (by decide +kernel) | exact hR.1 (22, 4, 24) (by decide +kernel) | exact hR.1 (41, 4, 43) (by decide +kernel) | exact hR.1 (215, 4, 217) (by decide +kernel) | exact hR.1 (261, 4, 263) (by decide +kernel) | exact hR.1 (307, 4, 309) (by decide +kernel) | exact hR.1 (353, 4, 355) (by decide +kernel)
theorem la_Laws_4 {o : Int} (h : At_Laws o) : Y1.1 (o + 2) = 0 := by rcases h with rfl | rfl | rfl | rfl | rfl | rfl | rfl <;> decide +kernel
theorem ln_Laws_4 {o : Int} (h : At_Laws o) : Y1.2.1 (o + 2) = 3 := by rcases h with rfl | rfl | rfl | rfl | rfl | rfl | rfl <;> decide +kernel
theorem rf_Laws_5 {o : Int} {R : Fn2} (hR : RS R) (h : At_Laws o) : R o 5 = o + 3 := by rcases h with rfl | rfl | rfl | rfl | rfl | rfl | rfl <;>  first | exact hR.1 (17, 5, 20) (by decide +kernel) | exact hR.1 (22, 5, 25) (by decide +kernel) | exact hR.1 (41, 5, 44) (by decide +kernel) | exact hR.1 (215, 5, 218) (by decide +kernel) | exact hR.1 (261, 5, 264) (by decide +kernel) | exact hR.1 (307, 5, 310) (by decide +kernel) | exact hR.1 (353, 5, 356) (by decide +kernel)
theorem la_Laws_5 {o : Int} (h : At_Laws o) : Y1.1 (o + 3) = 0 := by rcases h with rfl | rfl | rfl | rfl | rfl | rfl | rfl <;> decide +kernel
theorem ln_Laws_5 {o : Int} (h : At_Laws o) : Y1.2.1 (o + 3) = 3 := by rcases h with rfl | rfl | rfl | rfl | rfl | rfl | rfl <;> decide +kernel
theorem rf_Laws_6 {o : Int} {R : Fn2} (hR : RS R) (h : At_Laws o) : R o 6 = o + 4 := by rcases h with rfl | rfl | rfl | rfl | rfl | rfl | rfl <;>  first | exact hR.1 (17, 6, 21) (by decide +kernel) | exact hR.1 (22, 6, 26) (by decide +kernel) | exact hR.1 (41, 6, 45) (by decide +kernel) | exact hR.1 (215, 6, 219) (by decide +kernel) | exact hR.1 (261, 6, 265) (by decide +kernel) | exact hR.1 (307, 6, 311) (by decide +kernel) | exact hR.1 (353, 6, 357) (by decide +kernel)
theorem la_Laws_6 {o : Int} (h : At_Laws o) : Y1.1 (o + 4) = 0 := by rcases h with rfl | rfl | rfl | rfl | rfl | rfl | rfl <;> decide +kernel
theorem ln_Laws_6 {o : Int} (h : At_Laws o) : Y1.2.1 (o + 4) = 41 := by rcases h with rfl | rfl | rfl | rfl | rfl | rfl | rfl <;> decide +kernel
theorem ly_Flow {o : Int} (h : At_Flow o) : Y1.1 o = 12 := by rcases h with rfl | rfl | rfl | rfl | rfl <;> decide +kernel
theorem rf_Flow_3 {o : Int} {R : Fn2} (hR : RS R) (h : At_Flow o) : R o 3 = o + 18 := by rcases h with rfl | rfl | rfl | rfl | rfl <;>  first | exact hR.1 (28, 3, 46) (by decide +kernel) | exact hR.1 (202, 3, 220) (by decide +kernel) | exact hR.1 (248, 3, 266) (by decide +kernel) | exact hR.1 (294, 3, 312) (by decide +kernel) | exact hR.1 (340, 3, 358) (by decide +kernel)
theorem la_Flow_3 {o : Int} (h : At_Flow o) : Y1.1 (o + 18) = 0 := by rcases h with rfl | rfl | rfl | rfl | rfl <;> decide +kernel
theorem ln_Flow_3 {o : Int} (h : At_Flow o) : Y1.2.1 (o + 18) = 8 := by rcases h with rfl | rfl | rfl | rfl | rfl <;> decide +kernel
theorem rf_Flow_4 {o : Int} {R : Fn2} (hR : RS R) (h : At_Flow o) : R o 4 = o + 19 := by rcases h with rfl | rfl | rfl | rfl | rfl <;>  first | exact hR.1 (28, 4, 47) (by decide +kernel) | exact hR.1 (202, 4, 221) (by decide +kernel) | exact hR.1 (248, 4, 267) (by decide +kernel) | exact hR.1 (294, 4, 313) (by decide +kernel) | exact hR.1 (340, 4, 359) (by decide +kernel)
theorem la_Flow_4 {o : Int} (h : At_Flow o) : Y1.1 (o + 19) = 0 := by rcases h with rfl | rfl | rfl | rfl | rfl <;> decide +kernel
theorem ln_Flow_4 {o : Int} (h : At_Flow o) : Y1.2.1 (o + 19) = 8 := by rcases h with rfl | rfl | rfl | rfl | rfl <;> decide +kernel
theorem rf_Flow_5 {o : Int} {R : Fn2} (hR : RS R) (h : At_Flow o) : R o 5 = o + 20 := by rcases h with rfl | rfl | rfl | rfl | rfl <;>  first | exact hR.1 (28, 5, 48) (by decide +kernel) | exact hR.1 (202, 5, 222) (by decide +kernel) | exact hR.1 (248, 5, 268) (by decide +kernel) | exact hR.1 (294, 5, 314) (by decide +kernel) | exact hR.1 (340, 5, 360) (by decide +kernel)
theorem la_Flow_5 {o : Int} (h : At_Flow o) : Y1.1 (o + 20) = 0 := by rcases h with rfl | rfl | rfl | rfl | rfl <;> decide +kernel
theorem ln_Flow_5 {o : Int} (h : At_Flow o) : Y1.2.1 (o + 20) = 8 := by rcases h with rfl | rfl | rfl | rfl | rfl <;> decide +kernel
theorem rf_Flow_6 {o : Int} {R : Fn2} (hR : RS R) (h : At_Flow o) : R o 6 = o + 21 := by rcases h with rfl | rfl | rfl | rfl | rfl <;>  first | exact hR.1 (28, 6, 49) (by decide +kernel) | exact hR.1 (202, 6, 223) (by decide +kernel) | exact hR.1 (248, 6, 269) (by decide +kernel) | exact hR.1 (294, 6, 315) (by decide +kernel) | exact hR.1 (340, 6, 361) (by decide +kernel)
theorem la_Flow_6 {o : Int} (h : At_Flow o) : Y1.1 (o + 21) = 0 := by rcases h with rfl | rfl | rfl | rfl | rfl <;> decide +kernel
theorem ln_Flow_6 {o : Int} (h : At_Flow o) : Y1.2.1 (o + 21) = 8 := by rcases h with rfl | rfl | rfl | rfl | rfl <;> decide +kernel
theorem rf_Flow_7 {o : Int} {R : Fn2} (hR : RS R) (h : At_Flow o) : R o 7 = o + 22 := by rcases h with rfl | rfl | rfl | rfl | rfl <;>  first | exact hR.1 (28, 7, 50) (by decide +kernel) | exact hR.1 (202, 7, 224) (by decide +kernel) | exact hR.1 (248, 7, 270) (by decide +kernel) | exact hR.1 (294, 7, 316) (by decide +kernel) | exact hR.1 (340, 7, 362) (by decide +kernel)
theorem la_Flow_7 {o : Int} (h : At_Flow o) : Y1.1 (o + 22) = 0 := by rcases h with rfl | rfl | rfl | rfl | rfl <;> decide +kernel
theorem ln_Flow_7 {o : Int} (h : At_Flow o) : Y1.2.1 (o + 22) = 8 := by rcases h with rfl | rfl | rfl | rfl | rfl <;> decide +kernel
theorem rf_Flow_8 {o : Int} {R : Fn2} (hR : RS R) (h : At_Flow o) : R o 8 = o + 23 := by rcases h with rfl | rfl | rfl | rfl | rfl <;>  first | exact hR.1 (28, 8, 51) (by decide +kernel) | exact hR.1 (202, 8, 225) (by decide +kernel) | exact hR.1 (248, 8, 271) (by decide +kernel) | exact hR.1 (294, 8, 317) (by decide +kernel) | exact hR.1 (340, 8, 363) (by decide +kernel)
theorem la_Flow_8 {o : Int} (h : At_Flow o) : Y1.1 (o + 23) = 0 := by rcases h with rfl | rfl | rfl | rfl | rfl <;> decide +kernel
theorem ln_Flow_8 {o : Int} (h : At_Flow o) : Y1.2.1 (o + 23) = 8 := by rcases h with rfl | rfl | rfl | rfl | rfl <;> decide +kernel
theorem rf_Flow_9 {o : Int} {R : Fn2} (hR : RS R) (h : At_Flow o) : R o 9 = o + 24 := by rcases h with rfl | rfl | rfl | rfl | rfl <;>  first | exact hR.1 (28, 9, 52) (by decide +kernel) | exact hR.1 (202, 9, 226) (by decide +kernel) | exact hR.1 (248, 9, 272) (by decide +kernel) | exact hR.1 (294, 9, 318) (by decide +kernel) | exact hR.1 (340, 9, 364) (by decide +kernel)
theorem la_Flow_9 {o : Int} (h : At_Flow o) : Y1.1 (o + 24) = 0 := by rcases h with rfl | rfl | rfl | rfl | rfl <;> decide +kernel
theorem ln_Flow_9 {o : Int} (h : At_Flow o) : Y1.2.1 (o + 24) = 8 := by rcases h with rfl | rfl | rfl | rfl | rfl <;> decide +kernel
theorem rf_Flow_10 {o : Int} {R : Fn2} (hR : RS R) (h : At_Flow o) : R o 10 = o + 25 := by rcases h with rfl | rfl | rfl | rfl | rfl <;>  first | exact hR.1 (28, 10, 53) (by decide +kernel) | exact hR.1 (202, 10, 227) (by decide +kernel) | exact hR.1 (248, 10, 273) (by decide +kernel) | exact hR.1 (294, 10, 319) (by decide +kernel) | exact hR.1 (340, 10, 365) (by decide +kernel)
theorem la_Flow_10 {o : Int} (h : At_Flow o) : Y1.1 (o + 25) = 0 := by rcases h with rfl | rfl | rfl | rfl | rfl <;> decide +kernel
theorem ln_Flow_10 {o : Int} (h : At_Flow o) : Y1.2.1 (o + 25) = 8 := by rcases h with rfl | rfl | rfl | rfl | rfl <;> decide +kernel
theorem rf_Flow_11 {o : Int} {R : Fn2} (hR : RS R) (h : At_Flow o) : R o 11 = o + 26 := by rcases h with rfl | rfl | rfl | rfl | rfl <;>  first | exact hR.1 (28, 11, 54) (by decide +kernel) | exact hR.1 (202, 11, 228) (by decide +kernel) | exact hR.1 (248, 11, 274) (by decide +kernel) | exact hR.1 (294, 11, 320) (by decide +kernel) | exact hR.1 (340, 11, 366) (by decide +kernel)
theorem la_Flow_11 {o : Int} (h : At_Flow o) : Y1.1 (o + 26) = 0 := by rcases h with rfl | rfl | rfl | rfl | rfl <;> decide +kernel
theorem ln_Flow_11 {o : Int} (h : At_Flow o) : Y1.2.1 (o + 26) = 8 := by rcases h with rfl | rfl | rfl | rfl | rfl <;> decide +kernel
theorem ly_Plays {o : Int} (h : At_Plays o) : Y1.1 o = 15 := by rcases h with rfl | rfl <;> decide +kernel
theorem rf_Plays_0 {o : Int} {R : Fn2} (hR : RS R) (h : At_Plays o) : R o 0 = o + 1 := by rcases h with rfl | rfl <;>  first | exact hR.1 (58, 0, 59) (by decide +kernel) | exact hR.1 (62, 0, 63) (by decide +kernel)
theorem la_Plays_0 {o : Int} (h : At_Plays o) : Y1.1 (o + 1) = 0 := by rcases h with rfl | rfl <;> decide +kernel
theorem ln_Plays_0 {o : Int} (h : At_Plays o) : Y1.2.1 (o + 1) = 200 := by rcases h with rfl | rfl <;> decide +kernel
theorem rf_Plays_1 {o : Int} {R : Fn2} (hR : RS R) (h : At_Plays o) : R o 1 = o + 2 := by rcases h with rfl | rfl <;>  first | exact hR.1 (58, 1, 60) (by decide +kernel) | exact hR.1 (62, 1, 64) (by decide +kernel)
theorem la_Plays_1 {o : Int} (h : At_Plays o) : Y1.1 (o + 2) = 0 := by rcases h with rfl | rfl <;> decide +kernel
theorem ln_Plays_1 {o : Int} (h : At_Plays o) : Y1.2.1 (o + 2) = 200 := by rcases h with rfl | rfl <;> decide +kernel
theorem rf_Plays_2 {o : Int} {R : Fn2} (hR : RS R) (h : At_Plays o) : R o 2 = o + 3 := by rcases h with rfl | rfl <;>  first | exact hR.1 (58, 2, 61) (by decide +kernel) | exact hR.1 (62, 2, 65) (by decide +kernel)
theorem la_Plays_2 {o : Int} (h : At_Plays o) : Y1.1 (o + 3) = 0 := by rcases h with rfl | rfl <;> decide +kernel
theorem ln_Plays_2 {o : Int} (h : At_Plays o) : Y1.2.1 (o + 3) = 200 := by rcases h with rfl | rfl <;> decide +kernel
theorem ly_Course {o : Int} (h : At_Course o) : Y1.1 o = 11 := by rcases h with rfl | rfl | rfl | rfl <;> decide +kernel
theorem rf_Course_1 {o : Int} {R : Fn2} (hR : RS R) (h : At_Course o) : R o 1 = o + 13 := by rcases h with rfl | rfl | rfl | rfl <;>  first | exact hR.1 (189, 1, 202) (by decide +kernel) | exact hR.1 (235, 1, 248) (by decide +kernel) | exact hR.1 (281, 1, 294) (by decide +kernel) | exact hR.1 (327, 1, 340) (by decide +kernel)
theorem at_Course_1 {o : Int} (h : At_Course o) : At_Flow (o + 13) := by unfold At_Course at h; unfold At_Flow; omega
theorem rf_Course_2 {o : Int} {R : Fn2} (hR : RS R) (h : At_Course o) : R o 2 = o + 40 := by rcases h with rfl | rfl | rfl | rfl <;>  first | exact hR.1 (189, 2, 229) (by decide +kernel) | exact hR.1 (235, 2, 275) (by decide +kernel) | exact hR.1 (281, 2, 321) (by decide +kernel) | exact hR.1 (327, 2, 367) (by decide +kernel)
theorem la_Course_2 {o : Int} (h : At_Course o) : Y1.1 (o + 40) = 0 := by rcases h with rfl | rfl | rfl | rfl <;> decide +kernel
theorem ln_Course_2 {o : Int} (h : At_Course o) : Y1.2.1 (o + 40) = 8008 := by rcases h with rfl | rfl | rfl | rfl <;> decide +kernel
theorem rf_Course_3 {o : Int} {R : Fn2} (hR : RS R) (h : At_Course o) : R o 3 = o + 41 := by rcases h with rfl | rfl | rfl | rfl <;>  first | exact hR.1 (189, 3, 230) (by decide +kernel) | exact hR.1 (235, 3, 276) (by decide +kernel) | exact hR.1 (281, 3, 322) (by decide +kernel) | exact hR.1 (327, 3, 368) (by decide +kernel)
theorem la_Course_3 {o : Int} (h : At_Course o) : Y1.1 (o + 41) = 0 := by rcases h with rfl | rfl | rfl | rfl <;> decide +kernel
theorem ln_Course_3 {o : Int} (h : At_Course o) : Y1.2.1 (o + 41) = 8008 := by rcases h with rfl | rfl | rfl | rfl <;> decide +kernel
theorem rf_Course_4 {o : Int} {R : Fn2} (hR : RS R) (h : At_Course o) : R o 4 = o + 42 := by rcases h with rfl | rfl | rfl | rfl <;>  first | exact hR.1 (189, 4, 231) (by decide +kernel) | exact hR.1 (235, 4, 277) (by decide +kernel) | exact hR.1 (281, 4, 323) (by decide +kernel) | exact hR.1 (327, 4, 369) (by decide +kernel)
theorem la_Course_4 {o : Int} (h : At_Course o) : Y1.1 (o + 42) = 0 := by rcases h with rfl | rfl | rfl | rfl <;> decide +kernel
theorem ln_Course_4 {o : Int} (h : At_Course o) : Y1.2.1 (o + 42) = 1001 := by rcases h with rfl | rfl | rfl | rfl <;> decide +kernel
theorem rf_Course_5 {o : Int} {R : Fn2} (hR : RS R) (h : At_Course o) : R o 5 = o + 43 := by rcases h with rfl | rfl | rfl | rfl <;>  first | exact hR.1 (189, 5, 232) (by decide +kernel) | exact hR.1 (235, 5, 278) (by decide +kernel) | exact hR.1 (281, 5, 324) (by decide +kernel) | exact hR.1 (327, 5, 370) (by decide +kernel)
theorem la_Course_5 {o : Int} (h : At_Course o) : Y1.1 (o + 43) = 0 := by rcases h with rfl | rfl | rfl | rfl <;> decide +kernel
theorem ln_Course_5 {o : Int} (h : At_Course o) : Y1.2.1 (o + 43) = 1001 := by rcases h with rfl | rfl | rfl | rfl <;> decide +kernel
theorem rf_Course_6 {o : Int} {R : Fn2} (hR : RS R) (h : At_Course o) : R o 6 = o + 44 := by rcases h with rfl | rfl | rfl | rfl <;>  first | exact hR.1 (189, 6, 233) (by decide +kernel) | exact hR.1 (235, 6, 279) (by decide +kernel) | exact hR.1 (281, 6, 325) (by decide +kernel) | exact hR.1 (327, 6, 371) (by decide +kernel)
theorem la_Course_6 {o : Int} (h : At_Course o) : Y1.1 (o + 44) = 0 := by rcases h with rfl | rfl | rfl | rfl <;> decide +kernel
theorem ln_Course_6 {o : Int} (h : At_Course o) : Y1.2.1 (o + 44) = 1001 := by rcases h with rfl | rfl | rfl | rfl <;> decide +kernel
theorem rf_Course_7 {o : Int} {R : Fn2} (hR : RS R) (h : At_Course o) : R o 7 = o + 45 := by rcases h with rfl | rfl | rfl | rfl <;>  first | exact hR.1 (189, 7, 234) (by decide +kernel) | exact hR.1 (235, 7, 280) (by decide +kernel) | exact hR.1 (281, 7, 326) (by decide +kernel) | exact hR.1 (327, 7, 372) (by decide +kernel)
theorem la_Course_7 {o : Int} (h : At_Course o) : Y1.1 (o + 45) = 0 := by rcases h with rfl | rfl | rfl | rfl <;> decide +kernel
theorem ln_Course_7 {o : Int} (h : At_Course o) : Y1.2.1 (o + 45) = 1001 := by rcases h with rfl | rfl | rfl | rfl <;> decide +kernel
theorem yk_0 : Y1.1 0 = 20 := by decide +kernel
theorem rr_0_0 {R : Fn2} (hR : RS R) : R 0 0 = 1 := hR.1 (0, 0, 1) (by decide +kernel)
theorem rr_0_2 {R : Fn2} (hR : RS R) : R 0 2 = 2 := hR.1 (0, 2, 2) (by decide +kernel)
theorem rr_0_3 {R : Fn2} (hR : RS R) : R 0 3 = 4 := hR.1 (0, 3, 4) (by decide +kernel)
theorem rr_0_9 {R : Fn2} (hR : RS R) : R 0 9 = 27 := hR.1 (0, 9, 27) (by decide +kernel)
theorem rr_0_10 {R : Fn2} (hR : RS R) : R 0 10 = 58 := hR.1 (0, 10, 58) (by decide +kernel)
theorem at_58 : At_Plays 58 := by unfold At_Plays; decide
theorem rr_0_11 {R : Fn2} (hR : RS R) : R 0 11 = 62 := hR.1 (0, 11, 62) (by decide +kernel)
theorem at_62 : At_Plays 62 := by unfold At_Plays; decide
theorem rr_0_12 {R : Fn2} (hR : RS R) : R 0 12 = 66 := hR.1 (0, 12, 66) (by decide +kernel)
theorem rr_0_13 {R : Fn2} (hR : RS R) : R 0 13 = 71 := hR.1 (0, 13, 71) (by decide +kernel)
theorem rr_0_14 {R : Fn2} (hR : RS R) : R 0 14 = 184 := hR.1 (0, 14, 184) (by decide +kernel)
theorem yk_2 : Y1.1 2 = 18 := by decide +kernel
theorem yk_27 : Y1.1 27 = 19 := by decide +kernel
theorem rr_27_0 {R : Fn2} (hR : RS R) : R 27 0 = 28 := hR.1 (27, 0, 28) (by decide +kernel)
theorem at_28 : At_Flow 28 := by unfold At_Flow; decide
theorem rr_27_1 {R : Fn2} (hR : RS R) : R 27 1 = 55 := hR.1 (27, 1, 55) (by decide +kernel)
theorem rr_27_2 {R : Fn2} (hR : RS R) : R 27 2 = 56 := hR.1 (27, 2, 56) (by decide +kernel)
theorem rr_27_3 {R : Fn2} (hR : RS R) : R 27 3 = 57 := hR.1 (27, 3, 57) (by decide +kernel)
theorem yk_66 : Y1.1 66 = 16 := by decide +kernel
theorem rr_66_2 {R : Fn2} (hR : RS R) : R 66 2 = 67 := hR.1 (66, 2, 67) (by decide +kernel)
theorem rr_66_3 {R : Fn2} (hR : RS R) : R 66 3 = 68 := hR.1 (66, 3, 68) (by decide +kernel)
theorem rr_66_4 {R : Fn2} (hR : RS R) : R 66 4 = 69 := hR.1 (66, 4, 69) (by decide +kernel)
theorem rr_66_5 {R : Fn2} (hR : RS R) : R 66 5 = 70 := hR.1 (66, 5, 70) (by decide +kernel)
theorem yk_71 : Y1.1 71 = 10 := by decide +kernel
theorem rr_71_6 {R : Fn2} (hR : RS R) : R 71 6 = 72 := hR.1 (71, 6, 72) (by decide +kernel)
theorem rr_71_7 {R : Fn2} (hR : RS R) : R 71 7 = 73 := hR.1 (71, 7, 73) (by decide +kernel)
theorem rr_71_8 {R : Fn2} (hR : RS R) : R 71 8 = 74 := hR.1 (71, 8, 74) (by decide +kernel)
theorem rr_71_9 {R : Fn2} (hR : RS R) : R 71 9 = 75 := hR.1 (71, 9, 75) (by decide +kernel)
theorem rr_71_10 {R : Fn2} (hR : RS R) : R 71 10 = 176 := hR.1 (71, 10, 176) (by decide +kernel)
theorem rr_71_11 {R : Fn2} (hR : RS R) : R 71 11 = 182 := hR.1 (71, 11, 182) (by decide +kernel)
theorem rr_71_12 {R : Fn2} (hR : RS R) : R 71 12 = 183 := hR.1 (71, 12, 183) (by decide +kernel)
theorem yk_184 : Y1.1 184 = 14 := by decide +kernel
theorem rr_184_1 {R : Fn2} (hR : RS R) : R 184 1 = 185 := hR.1 (184, 1, 185) (by decide +kernel)
theorem rr_184_2 {R : Fn2} (hR : RS R) : R 184 2 = 186 := hR.1 (184, 2, 186) (by decide +kernel)
theorem rr_184_3 {R : Fn2} (hR : RS R) : R 184 3 = 187 := hR.1 (184, 3, 187) (by decide +kernel)
theorem rr_184_4 {R : Fn2} (hR : RS R) : R 184 4 = 188 := hR.1 (184, 4, 188) (by decide +kernel)
theorem yk_373 : Y1.1 373 = 21 := by decide +kernel
theorem rr_373_0 {R : Fn2} (hR : RS R) : R 373 0 = 374 := hR.1 (373, 0, 374) (by decide +kernel)
theorem rr_373_1 {R : Fn2} (hR : RS R) : R 373 1 = 375 := hR.1 (373, 1, 375) (by decide +kernel)
theorem rr_373_11 {R : Fn2} (hR : RS R) : R 373 11 = 376 := hR.1 (373, 11, 376) (by decide +kernel)
theorem rr_373_12 {R : Fn2} (hR : RS R) : R 373 12 = 377 := hR.1 (373, 12, 377) (by decide +kernel)
theorem rr_373_13 {R : Fn2} (hR : RS R) : R 373 13 = 378 := hR.1 (373, 13, 378) (by decide +kernel)
theorem rr_373_14 {R : Fn2} (hR : RS R) : R 373 14 = 379 := hR.1 (373, 14, 379) (by decide +kernel)
theorem rr_373_15 {R : Fn2} (hR : RS R) : R 373 15 = 380 := hR.1 (373, 15, 380) (by decide +kernel)
theorem rr_373_16 {R : Fn2} (hR : RS R) : R 373 16 = 381 := hR.1 (373, 16, 381) (by decide +kernel)
theorem rr_373_17 {R : Fn2} (hR : RS R) : R 373 17 = 382 := hR.1 (373, 17, 382) (by decide +kernel)
theorem rr_373_18 {R : Fn2} (hR : RS R) : R 373 18 = 383 := hR.1 (373, 18, 383) (by decide +kernel)
theorem rr_373_19 {R : Fn2} (hR : RS R) : R 373 19 = 384 := hR.1 (373, 19, 384) (by decide +kernel)
theorem rr_373_20 {R : Fn2} (hR : RS R) : R 373 20 = 385 := hR.1 (373, 20, 385) (by decide +kernel)
theorem rr_373_21 {R : Fn2} (hR : RS R) : R 373 21 = 386 := hR.1 (373, 21, 386) (by decide +kernel)
theorem rr_373_22 {R : Fn2} (hR : RS R) : R 373 22 = 387 := hR.1 (373, 22, 387) (by decide +kernel)
theorem rr_373_23 {R : Fn2} (hR : RS R) : R 373 23 = 388 := hR.1 (373, 23, 388) (by decide +kernel)
theorem rr_373_24 {R : Fn2} (hR : RS R) : R 373 24 = 389 := hR.1 (373, 24, 389) (by decide +kernel)
theorem rr_373_27 {R : Fn2} (hR : RS R) : R 373 27 = 390 := hR.1 (373, 27, 390) (by decide +kernel)
theorem rr_373_28 {R : Fn2} (hR : RS R) : R 373 28 = 391 := hR.1 (373, 28, 391) (by decide +kernel)
theorem rr_373_29 {R : Fn2} (hR : RS R) : R 373 29 = 392 := hR.1 (373, 29, 392) (by decide +kernel)
theorem rr_373_30 {R : Fn2} (hR : RS R) : R 373 30 = 393 := hR.1 (373, 30, 393) (by decide +kernel)
theorem rr_373_31 {R : Fn2} (hR : RS R) : R 373 31 = 394 := hR.1 (373, 31, 394) (by decide +kernel)
theorem rr_373_32 {R : Fn2} (hR : RS R) : R 373 32 = 395 := hR.1 (373, 32, 395) (by decide +kernel)
theorem rr_373_33 {R : Fn2} (hR : RS R) : R 373 33 = 396 := hR.1 (373, 33, 396) (by decide +kernel)
theorem rr_373_34 {R : Fn2} (hR : RS R) : R 373 34 = 397 := hR.1 (373, 34, 397) (by decide +kernel)
theorem rr_373_41 {R : Fn2} (hR : RS R) : R 373 41 = 398 := hR.1 (373, 41, 398) (by decide +kernel)
theorem rr_373_42 {R : Fn2} (hR : RS R) : R 373 42 = 399 := hR.1 (373, 42, 399) (by decide +kernel)
theorem rr_373_43 {R : Fn2} (hR : RS R) : R 373 43 = 400 := hR.1 (373, 43, 400) (by decide +kernel)
theorem rr_373_44 {R : Fn2} (hR : RS R) : R 373 44 = 401 := hR.1 (373, 44, 401) (by decide +kernel)
theorem rr_373_45 {R : Fn2} (hR : RS R) : R 373 45 = 402 := hR.1 (373, 45, 402) (by decide +kernel)
theorem rr_373_46 {R : Fn2} (hR : RS R) : R 373 46 = 403 := hR.1 (373, 46, 403) (by decide +kernel)
theorem rr_373_47 {R : Fn2} (hR : RS R) : R 373 47 = 404 := hR.1 (373, 47, 404) (by decide +kernel)
theorem rr_373_58 {R : Fn2} (hR : RS R) : R 373 58 = 405 := hR.1 (373, 58, 405) (by decide +kernel)
theorem rr_373_59 {R : Fn2} (hR : RS R) : R 373 59 = 406 := hR.1 (373, 59, 406) (by decide +kernel)
theorem rr_373_60 {R : Fn2} (hR : RS R) : R 373 60 = 407 := hR.1 (373, 60, 407) (by decide +kernel)
theorem rr_373_63 {R : Fn2} (hR : RS R) : R 373 63 = 408 := hR.1 (373, 63, 408) (by decide +kernel)
theorem rr_373_64 {R : Fn2} (hR : RS R) : R 373 64 = 409 := hR.1 (373, 64, 409) (by decide +kernel)
theorem rr_373_65 {R : Fn2} (hR : RS R) : R 373 65 = 410 := hR.1 (373, 65, 410) (by decide +kernel)
theorem rr_373_66 {R : Fn2} (hR : RS R) : R 373 66 = 411 := hR.1 (373, 66, 411) (by decide +kernel)
theorem rr_373_67 {R : Fn2} (hR : RS R) : R 373 67 = 412 := hR.1 (373, 67, 412) (by decide +kernel)
theorem rr_373_68 {R : Fn2} (hR : RS R) : R 373 68 = 413 := hR.1 (373, 68, 413) (by decide +kernel)
theorem rr_373_69 {R : Fn2} (hR : RS R) : R 373 69 = 414 := hR.1 (373, 69, 414) (by decide +kernel)
theorem rr_373_70 {R : Fn2} (hR : RS R) : R 373 70 = 415 := hR.1 (373, 70, 415) (by decide +kernel)
theorem rr_373_71 {R : Fn2} (hR : RS R) : R 373 71 = 416 := hR.1 (373, 71, 416) (by decide +kernel)
theorem rr_373_75 {R : Fn2} (hR : RS R) : R 373 75 = 417 := hR.1 (373, 75, 417) (by decide +kernel)
theorem rr_373_76 {R : Fn2} (hR : RS R) : R 373 76 = 418 := hR.1 (373, 76, 418) (by decide +kernel)
theorem rr_373_77 {R : Fn2} (hR : RS R) : R 373 77 = 419 := hR.1 (373, 77, 419) (by decide +kernel)
theorem rr_373_79 {R : Fn2} (hR : RS R) : R 373 79 = 420 := hR.1 (373, 79, 420) (by decide +kernel)
theorem rr_373_86 {R : Fn2} (hR : RS R) : R 373 86 = 421 := hR.1 (373, 86, 421) (by decide +kernel)
theorem rr_373_87 {R : Fn2} (hR : RS R) : R 373 87 = 422 := hR.1 (373, 87, 422) (by decide +kernel)
theorem rr_373_88 {R : Fn2} (hR : RS R) : R 373 88 = 423 := hR.1 (373, 88, 423) (by decide +kernel)
theorem yk_1 : Y1.1 1 = 0 := by decide +kernel
theorem yn_1 : Y1.2.1 1 = 900 := by decide +kernel
theorem yk_3 : Y1.1 3 = 0 := by decide +kernel
theorem yn_3 : Y1.2.1 3 = 0 := by decide +kernel
theorem yk_4 : Y1.1 4 = 4 := by decide +kernel
theorem yn_4 : Y1.2.1 4 = 4 := by decide +kernel
theorem yk_55 : Y1.1 55 = 0 := by decide +kernel
theorem yn_55 : Y1.2.1 55 = 1001 := by decide +kernel
theorem yk_56 : Y1.1 56 = 0 := by decide +kernel
theorem yn_56 : Y1.2.1 56 = 8 := by decide +kernel
theorem yk_57 : Y1.1 57 = 0 := by decide +kernel
theorem yn_57 : Y1.2.1 57 = 8 := by decide +kernel
theorem yk_67 : Y1.1 67 = 0 := by decide +kernel
theorem yn_67 : Y1.2.1 67 = 60 := by decide +kernel
theorem yk_68 : Y1.1 68 = 0 := by decide +kernel
theorem yn_68 : Y1.2.1 68 = 60 := by decide +kernel
theorem yk_69 : Y1.1 69 = 0 := by decide +kernel
theorem yn_69 : Y1.2.1 69 = 60 := by decide +kernel
theorem yk_70 : Y1.1 70 = 0 := by decide +kernel
theorem yn_70 : Y1.2.1 70 = 60 := by decide +kernel
theorem yk_72 : Y1.1 72 = 0 := by decide +kernel
theorem yn_72 : Y1.2.1 72 = 60 := by decide +kernel
theorem yk_73 : Y1.1 73 = 0 := by decide +kernel
theorem yn_73 : Y1.2.1 73 = 60 := by decide +kernel
theorem yk_74 : Y1.1 74 = 2 := by decide +kernel
theorem yn_74 : Y1.2.1 74 = 100 := by decide +kernel
theorem yk_75 : Y1.1 75 = 5 := by decide +kernel
theorem yn_75 : Y1.2.1 75 = 100 := by decide +kernel
theorem yk_176 : Y1.1 176 = 5 := by decide +kernel
theorem yn_176 : Y1.2.1 176 = 5 := by decide +kernel
theorem yk_182 : Y1.1 182 = 0 := by decide +kernel
theorem yn_182 : Y1.2.1 182 = 4 := by decide +kernel
theorem yk_183 : Y1.1 183 = 0 := by decide +kernel
theorem yn_183 : Y1.2.1 183 = 4 := by decide +kernel
theorem yk_185 : Y1.1 185 = 0 := by decide +kernel
theorem yn_185 : Y1.2.1 185 = 40 := by decide +kernel
theorem yk_186 : Y1.1 186 = 0 := by decide +kernel
theorem yn_186 : Y1.2.1 186 = 40 := by decide +kernel
theorem yk_187 : Y1.1 187 = 2 := by decide +kernel
theorem yn_187 : Y1.2.1 187 = 40 := by decide +kernel
theorem yk_188 : Y1.1 188 = 0 := by decide +kernel
theorem yn_188 : Y1.2.1 188 = 501 := by decide +kernel
theorem yk_374 : Y1.1 374 = 1 := by decide +kernel
theorem yn_374 : Y1.2.1 374 = 920 := by decide +kernel
theorem yk_375 : Y1.1 375 = 1 := by decide +kernel
theorem yn_375 : Y1.2.1 375 = 900 := by decide +kernel
theorem yk_376 : Y1.1 376 = 0 := by decide +kernel
theorem yn_376 : Y1.2.1 376 = 4 := by decide +kernel
theorem yk_377 : Y1.1 377 = 0 := by decide +kernel
theorem yn_377 : Y1.2.1 377 = 5 := by decide +kernel
theorem yk_378 : Y1.1 378 = 0 := by decide +kernel
theorem yn_378 : Y1.2.1 378 = 5 := by decide +kernel
theorem yk_379 : Y1.1 379 = 0 := by decide +kernel
theorem yn_379 : Y1.2.1 379 = 40 := by decide +kernel
theorem yk_380 : Y1.1 380 = 0 := by decide +kernel
theorem yn_380 : Y1.2.1 380 = 40 := by decide +kernel
theorem yk_381 : Y1.1 381 = 0 := by decide +kernel
theorem yn_381 : Y1.2.1 381 = 40 := by decide +kernel
theorem yk_382 : Y1.1 382 = 0 := by decide +kernel
theorem yn_382 : Y1.2.1 382 = 40 := by decide +kernel
theorem yk_383 : Y1.1 383 = 0 := by decide +kernel
theorem yn_383 : Y1.2.1 383 = 40 := by decide +kernel
theorem yk_384 : Y1.1 384 = 0 := by decide +kernel
theorem yn_384 : Y1.2.1 384 = 40 := by decide +kernel
theorem yk_385 : Y1.1 385 = 0 := by decide +kernel
theorem yn_385 : Y1.2.1 385 = 40 := by decide +kernel
theorem yk_386 : Y1.1 386 = 0 := by decide +kernel
theorem yn_386 : Y1.2.1 386 = 20 := by decide +kernel
theorem yk_387 : Y1.1 387 = 0 := by decide +kernel
theorem yn_387 : Y1.2.1 387 = 20 := by decide +kernel
theorem yk_388 : Y1.1 388 = 0 := by decide +kernel
theorem yn_388 : Y1.2.1 388 = 20 := by decide +kernel
theorem yk_389 : Y1.1 389 = 3 := by decide +kernel
theorem yn_389 : Y1.2.1 389 = 40 := by decide +kernel
theorem yk_390 : Y1.1 390 = 0 := by decide +kernel
theorem yn_390 : Y1.2.1 390 = 6 := by decide +kernel
theorem yk_391 : Y1.1 391 = 0 := by decide +kernel
theorem yn_391 : Y1.2.1 391 = 6 := by decide +kernel
theorem yk_392 : Y1.1 392 = 0 := by decide +kernel
theorem yn_392 : Y1.2.1 392 = 1000 := by decide +kernel
theorem yk_393 : Y1.1 393 = 0 := by decide +kernel
theorem yn_393 : Y1.2.1 393 = 1000 := by decide +kernel
theorem yk_394 : Y1.1 394 = 0 := by decide +kernel
theorem yn_394 : Y1.2.1 394 = 60 := by decide +kernel
theorem yk_395 : Y1.1 395 = 0 := by decide +kernel
theorem yn_395 : Y1.2.1 395 = 60 := by decide +kernel
theorem yk_396 : Y1.1 396 = 0 := by decide +kernel
theorem yn_396 : Y1.2.1 396 = 70 := by decide +kernel
theorem yk_397 : Y1.1 397 = 2 := by decide +kernel
theorem yn_397 : Y1.2.1 397 = 6 := by decide +kernel
theorem yk_398 : Y1.1 398 = 0 := by decide +kernel
theorem yn_398 : Y1.2.1 398 = 8 := by decide +kernel
theorem yk_399 : Y1.1 399 = 0 := by decide +kernel
theorem yn_399 : Y1.2.1 399 = 8 := by decide +kernel
theorem yk_400 : Y1.1 400 = 0 := by decide +kernel
theorem yn_400 : Y1.2.1 400 = 8 := by decide +kernel
theorem yk_401 : Y1.1 401 = 0 := by decide +kernel
theorem yn_401 : Y1.2.1 401 = 8 := by decide +kernel
theorem yk_402 : Y1.1 402 = 0 := by decide +kernel
theorem yn_402 : Y1.2.1 402 = 8 := by decide +kernel
theorem yk_403 : Y1.1 403 = 0 := by decide +kernel
theorem yn_403 : Y1.2.1 403 = 8 := by decide +kernel
theorem yk_404 : Y1.1 404 = 0 := by decide +kernel
theorem yn_404 : Y1.2.1 404 = 8 := by decide +kernel
theorem yk_405 : Y1.1 405 = 0 := by decide +kernel
theorem yn_405 : Y1.2.1 405 = 200 := by decide +kernel
theorem yk_406 : Y1.1 406 = 0 := by decide +kernel
theorem yn_406 : Y1.2.1 406 = 200 := by decide +kernel
theorem yk_407 : Y1.1 407 = 0 := by decide +kernel
theorem yn_407 : Y1.2.1 407 = 200 := by decide +kernel
theorem yk_408 : Y1.1 408 = 0 := by decide +kernel
theorem yn_408 : Y1.2.1 408 = 60 := by decide +kernel
theorem yk_409 : Y1.1 409 = 0 := by decide +kernel
theorem yn_409 : Y1.2.1 409 = 60 := by decide +kernel
theorem yk_410 : Y1.1 410 = 0 := by decide +kernel
theorem yn_410 : Y1.2.1 410 = 60 := by decide +kernel
theorem yk_411 : Y1.1 411 = 0 := by decide +kernel
theorem yn_411 : Y1.2.1 411 = 60 := by decide +kernel
theorem yk_412 : Y1.1 412 = 0 := by decide +kernel
theorem yn_412 : Y1.2.1 412 = 3782 := by decide +kernel
theorem yk_413 : Y1.1 413 = 0 := by decide +kernel
theorem yn_413 : Y1.2.1 413 = 3782 := by decide +kernel
theorem yk_414 : Y1.1 414 = 0 := by decide +kernel
theorem yn_414 : Y1.2.1 414 = 505 := by decide +kernel
theorem yk_415 : Y1.1 415 = 0 := by decide +kernel
theorem yn_415 : Y1.2.1 415 = 505 := by decide +kernel
theorem yk_416 : Y1.1 416 = 0 := by decide +kernel
theorem yn_416 : Y1.2.1 416 = 60 := by decide +kernel
theorem yk_417 : Y1.1 417 = 0 := by decide +kernel
theorem yn_417 : Y1.2.1 417 = 40 := by decide +kernel
theorem yk_418 : Y1.1 418 = 0 := by decide +kernel
theorem yn_418 : Y1.2.1 418 = 40 := by decide +kernel
theorem yk_419 : Y1.1 419 = 2 := by decide +kernel
theorem yn_419 : Y1.2.1 419 = 40 := by decide +kernel
theorem yk_420 : Y1.1 420 = 0 := by decide +kernel
theorem yn_420 : Y1.2.1 420 = 6400 := by decide +kernel
theorem yk_421 : Y1.1 421 = 0 := by decide +kernel
theorem yn_421 : Y1.2.1 421 = 8008 := by decide +kernel
theorem yk_422 : Y1.1 422 = 0 := by decide +kernel
theorem yn_422 : Y1.2.1 422 = 8008 := by decide +kernel
theorem yk_423 : Y1.1 423 = 0 := by decide +kernel
theorem yn_423 : Y1.2.1 423 = 200 := by decide +kernel
theorem y_rows : (∀ j : Nat, j < 100 → Y1.1 (76 + j) = 0 ∧ Y1.2.1 (76 + j) = 100) ∧ (∀ j : Nat, j < 5 → Y1.1 (177 + j) = 0 ∧ Y1.2.1 (177 + j) = 101) := by decide +kernel
theorem row_75 {i : Int} (h0 : 0 ≤ i) (h : i < 100) : Y1.1 (76 + i) = 0 ∧ Y1.2.1 (76 + i) = 100 := by
  have := y_rows.1 i.toNat (by omega); rwa [Int.toNat_of_nonneg h0] at this
theorem row_176 {i : Int} (h0 : 0 ≤ i) (h : i < 5) : Y1.1 (177 + i) = 0 ∧ Y1.2.1 (177 + i) = 101 := by
  have := y_rows.2 i.toNat (by omega); rwa [Int.toNat_of_nonneg h0] at this
theorem crs_4 {i : Int} (h0 : 0 ≤ i) (h : i < 4) : At_Course (189 + 46 * i) := by unfold At_Course; omega
theorem llt {a b : Nat} (h : Nat.ble (a + 1) b = true) : a < b := Nat.le_of_ble_eq_true h
theorem lt_ln {a b n : Int} (e : b = n) (h : a < n) : a < b := by rw [e]; exact h
theorem le_ln {a b n : Int} (e : b = n) (h : a ≤ n) : a ≤ b := by rw [e]; exact h
/-- which references a call may change -/
def mutR (a k : Int) : Prop := (k = 0 ∧ (At_Course a ∨ At_Flow a ∨ a = 2)) ∨ (k = 1 ∧ At_Flow a) ∨ (a = 0 ∧ (k = 4 ∨ k = 5 ∨ k = 6))
theorem mutR_no : ∀ q ∈ RCL, ¬ mutR q.1 q.2.1 := by unfold mutR At_Course At_Flow; decide +kernel
theorem RS.st {R : Fn2} (hR : RS R) {a k v : Int} (h : mutR a k) : RS (st2 R a k v) := by
  have key : ∀ b j, ¬ (b = a ∧ j = k) → st2 R a k v b j = R b j := by
    intro b j hn
    by_cases e : b = a
    · subst e; rw [st2_s, u1_n (fun z => hn ⟨rfl, z⟩)]
    · rw [st2_n e]
  refine ⟨fun q hq => ?_, fun i h0 h1 => ?_, fun i h0 h1 => ?_, fun i h0 h1 => ?_⟩
  · rw [key _ _ (fun z => mutR_no q hq (by rw [z.1, z.2]; exact h))]; exact hR.1 q hq
  · rw [key _ _ (fun z => by unfold mutR At_Course At_Flow at h; omega)]; exact hR.2.1 i h0 h1
  · rw [key _ _ (fun z => by unfold mutR At_Course At_Flow at h; omega)]; exact hR.2.2.1 i h0 h1
  · rw [key _ _ (fun z => by unfold mutR At_Course At_Flow at h; omega)]; exact hR.2.2.2 i h0 h1
/-- the machine behind the constructors: cells and room are as they are -/
def G (X : Int × (Int → Int)) (k m : Nat) (Q : Vv → Fn2 → Fn2 → Fn2 → Prop) (pc : Nat) (ls st : List Vv) (F A R : Fn2) : Prop :=
  Gt TT MCo MSo X.1 X.2 (En TT MCo MSo NLo LGo X.1 X.2 k) (fun v F A R Y => Y = Y1 ∧ Q v F A R) m Y1.2.2.2.1 Y1.2.2.2.2 pc ls st F A R Y1
def Wp (X : Int × (Int → Int)) (k m : Nat) (args : List Vv) (F A R : Fn2) (Q : Vv → Fn2 → Fn2 → Fn2 → Prop) : Prop :=
  En TT MCo MSo NLo LGo X.1 X.2 k m args F A R Y1 (fun v F A R Y => Y = Y1 ∧ Q v F A R)
theorem Wp.mono {X : Int × (Int → Int)} {k m : Nat} {args : List Vv} {F A R : Fn2} {Q Q' : Vv → Fn2 → Fn2 → Fn2 → Prop} (h : Wp X k m args F A R Q) (hq : ∀ v F A R, Q v F A R → Q' v F A R) : Wp X k m args F A R Q' :=
  En_mono k _ _ _ _ _ _ _ _ (fun _ _ _ _ _ q => ⟨q.1, hq _ _ _ _ q.2⟩) h
theorem Wp.of {X : Int × (Int → Int)} {k m : Nat} {args : List Vv} {F A R : Fn2} {Q : Vv → Fn2 → Fn2 → Fn2 → Prop} (ls : List Vv) (g : lgs args 0 = LGo m) (e : ent (NLo m) args = ls) (n : ls.length = NLo m) (h : G X k m Q 0 ls [] F A R) : Wp X (k + 1) m args F A R Q := by
  subst e; exact ⟨⟨g, n⟩, h⟩
theorem Wp.of' {X : Int × (Int → Int)} {k k' m : Nat} (hk : k = k' + 1) {args : List Vv} {F A R : Fn2} {Q : Vv → Fn2 → Fn2 → Fn2 → Prop} (ls : List Vv) (g : lgs args 0 = LGo m) (e : ent (NLo m) args = ls) (n : ls.length = NLo m) (h : G X k' m Q 0 ls [] F A R) : Wp X k m args F A R Q := by
  subst hk; exact Wp.of ls g e n h
theorem rcv_k {k : Nat} {o : Int} {st r : List Vv} {Y : Yy} (h : st = (2, o) :: r) (h2 : Y.1 o = k + 2) : rcvP (k + 2) st Y := by
  rw [h]; exact h2
theorem to_call {X : Int × (Int → Int)} {k a : Nat} {args : List Vv} {F A R : Fn2} {K : Qq} (h : Wp X k a args F A R (fun v F A R => K v F A R Y1)) : En TT MCo MSo NLo LGo X.1 X.2 k a args F A R Y1 K := by
  refine En_mono k _ _ _ _ _ _ _ _ ?_ h
  rintro v F A R Y ⟨e, q⟩
  subst e; exact q
theorem retY {m : Nat} (h : MCo m = 0 ∧ MSo m = 0) : ((Y1.1, Y1.2.1, Y1.2.2.1, Y1.2.2.2.1 + MCo m, Y1.2.2.2.2 + MSo m) : Yy) = Y1 := by rw [h.1, h.2]; rfl

theorem zc_all : ∀ m : Nat, m < 231 → inOfB m = false → MCo m = 0 ∧ MSo m = 0 := by decide +kernel
