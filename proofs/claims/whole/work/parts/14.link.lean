def gs_owns : List String := [RX0, RX1, RX2, RX3, RX4, RX5, RX6, RX7, RX8, RX9, RX10, RX11, RX12, RL, RJ6, RJ7, RJ9]
def gs_own (o : Nat) : String := gs_owns.getD o ""
def gs_fl : List (Nat × Nat × Nat × Nat) := [(3, 9, 3, 0), (3, 15, 3, 1), (8, 116, 3, 1), (5, 193, 3, 1), (3, 18, 3, 2), (8, 123, 3, 2), (5, 196, 3, 2), (3, 21, 3, 3), (8, 64, 3, 3), (5, 148, 3, 3), (11, 180, 3, 3), (6, 9, 6, 0), (6, 15, 6, 1), (6, 18, 6, 2), (6, 22, 6, 3), (8, 67, 6, 3), (5, 306, 6, 3), (11, 373, 6, 3), (6, 26, 6, 4), (8, 148, 6, 4), (10, 9, 9, 0), (10, 15, 9, 1), (10, 18, 9, 2), (10, 21, 9, 3), (8, 68, 9, 3), (5, 176, 9, 3), (11, 368, 9, 3), (2, 9, 2, 0), (8, 120, 2, 0), (5, 190, 2, 0), (2, 15, 2, 1), (8, 103, 2, 1), (1, 77, 2, 1), (0, 74, 2, 1), (5, 199, 2, 1), (2, 18, 2, 2), (0, 69, 2, 2), (5, 202, 2, 2), (2, 21, 2, 3), (8, 106, 2, 3), (11, 167, 2, 3), (5, 205, 2, 3), (2, 24, 2, 4), (8, 109, 2, 4), (5, 208, 2, 4), (2, 27, 2, 5), (8, 126, 2, 5), (5, 214, 2, 5), (11, 343, 2, 5), (2, 30, 2, 6), (8, 132, 2, 6), (5, 217, 2, 6), (2, 33, 2, 7), (2, 36, 2, 8), (8, 129, 2, 8), (2, 39, 2, 9), (8, 135, 2, 9), (2, 42, 2, 10), (5, 227, 2, 10), (2, 45, 2, 11), (5, 230, 2, 11), (2, 48, 2, 12), (5, 233, 2, 12), (2, 51, 2, 13), (5, 239, 2, 13), (2, 54, 2, 14), (1, 62, 2, 14), (5, 236, 2, 14), (2, 57, 2, 15), (1, 42, 2, 15), (5, 211, 2, 15), (8, 170, 0, 0), (11, 225, 0, 0), (5, 249, 0, 0), (0, 66, 0, 1), (8, 173, 0, 1), (11, 228, 0, 1), (5, 252, 0, 1), (0, 43, 0, 2), (11, 208, 0, 2), (5, 255, 0, 2), (0, 37, 0, 3), (11, 197, 0, 3), (5, 258, 0, 3), (0, 15, 0, 4), (11, 205, 0, 4), (5, 261, 0, 4), (0, 21, 0, 5), (11, 202, 0, 5), (5, 264, 0, 5), (0, 57, 0, 6), (5, 267, 0, 6), (0, 63, 0, 7), (5, 270, 0, 7), (0, 60, 0, 8), (5, 273, 0, 8), (0, 28, 0, 9), (11, 215, 0, 9), (0, 34, 0, 10), (11, 218, 0, 10), (8, 14, 7, 0), (11, 86, 7, 0), (5, 144, 7, 0), (8, 20, 7, 1), (11, 95, 7, 1), (5, 163, 7, 1), (8, 23, 7, 2), (11, 101, 7, 2), (5, 166, 7, 2), (8, 26, 7, 3), (11, 98, 7, 3), (5, 276, 7, 3), (8, 32, 7, 4), (5, 302, 7, 4), (11, 369, 7, 4), (8, 39, 7, 5), (1, 80, 7, 5), (5, 172, 7, 5), (11, 300, 7, 5), (8, 45, 7, 6), (4, 56, 7, 6), (1, 21, 7, 6), (11, 120, 7, 6), (5, 183, 7, 6), (8, 51, 7, 7), (4, 60, 7, 7), (5, 61, 7, 7), (11, 193, 7, 7), (4, 42, 7, 8), (1, 15, 7, 8), (8, 69, 7, 8), (11, 68, 7, 8), (5, 180, 7, 8), (4, 49, 7, 9), (8, 72, 7, 9), (5, 58, 7, 9), (11, 311, 7, 9), (8, 75, 7, 10), (5, 128, 7, 10), (11, 376, 7, 10), (8, 57, 7, 11), (5, 131, 7, 11), (11, 379, 7, 11), (8, 61, 7, 12), (4, 68, 7, 12), (5, 134, 7, 12), (11, 382, 7, 12), (8, 78, 7, 13), (5, 65, 7, 13), (11, 314, 7, 13), (9, 9, 8, 0), (9, 15, 8, 1), (9, 44, 8, 2), (9, 46, 8, 3), (9, 31, 8, 4), (11, 48, 8, 4), (5, 49, 8, 5), (9, 55, 8, 5), (5, 73, 8, 6), (9, 52, 8, 6), (9, 71, 8, 7), (5, 89, 8, 7), (5, 9, 5, 0), (5, 18, 5, 1), (5, 279, 5, 2), (5, 282, 5, 3), (5, 39, 5, 4), (5, 285, 5, 5), (5, 289, 5, 6), (5, 42, 5, 7), (5, 25, 5, 8), (11, 44, 5, 8), (5, 29, 5, 9), (11, 80, 5, 9), (5, 33, 5, 10), (11, 83, 5, 10), (4, 11, 4, 0), (4, 17, 4, 1), (4, 21, 4, 2), (4, 24, 4, 3), (4, 27, 4, 4), (4, 30, 4, 5), (4, 33, 4, 6), (4, 48, 4, 7), (4, 52, 4, 8), (4, 53, 4, 9), (4, 120, 4, 10), (4, 36, 4, 11), (11, 247, 4, 11), (4, 39, 4, 12), (11, 397, 4, 12), (4, 114, 4, 13), (11, 241, 4, 13), (4, 117, 4, 14), (11, 244, 4, 14), (1, 9, 1, 0), (11, 258, 1, 0), (11, 10, 10, 0), (11, 19, 10, 1), (11, 26, 10, 2), (11, 33, 10, 3), (11, 71, 10, 5), (11, 74, 10, 6), (11, 37, 10, 7), (11, 41, 10, 8), (11, 352, 10, 4), (12, 7, 11, 0), (12, 132, 11, 1), (12, 129, 11, 2), (12, 13, 11, 3), (12, 135, 11, 4), (12, 16, 11, 5), (12, 141, 11, 6), (12, 144, 11, 7), (12, 147, 11, 8), (12, 158, 11, 9), (12, 138, 11, 10), (12, 177, 11, 11), (12, 20, 11, 12), (12, 23, 11, 13), (12, 26, 11, 14), (12, 29, 11, 15), (12, 32, 11, 16), (12, 183, 11, 17), (12, 35, 11, 18), (12, 38, 11, 19), (12, 41, 11, 20), (12, 44, 11, 21), (12, 47, 11, 22), (12, 50, 11, 23), (12, 53, 11, 24), (12, 56, 11, 25), (12, 59, 11, 26), (12, 62, 11, 27), (12, 65, 11, 28), (12, 68, 11, 29), (12, 71, 11, 30), (12, 74, 11, 31), (12, 77, 11, 32), (12, 80, 11, 33), (12, 83, 11, 34), (12, 86, 11, 35), (12, 193, 11, 36), (12, 89, 11, 37), (12, 92, 11, 38), (12, 95, 11, 39), (12, 278, 11, 40), (12, 275, 11, 41), (12, 292, 11, 42), (12, 186, 11, 43), (12, 305, 11, 44), (12, 298, 11, 45), (12, 98, 11, 46), (12, 102, 11, 47), (12, 317, 11, 48), (12, 421, 11, 49), (12, 424, 11, 50), (12, 441, 11, 51), (12, 105, 11, 52), (12, 108, 11, 53), (12, 438, 11, 54), (12, 111, 11, 55), (12, 114, 11, 56), (12, 117, 11, 57), (12, 120, 11, 58), (12, 509, 11, 59)]
def gs_c32 : List (Nat × Nat × Int32) := [(0, 51, 2147483647), (0, 56, (-2147483648)), (11, 385, 708000), (14, 265, 1431655765), (14, 266, 858993459), (14, 267, 252645135), (11, 192, (-2147483648)), (1, 49, 2147483647), (11, 394, 1103515245), (11, 395, 2147483647), (11, 396, 65536), (12, 367, 708000), (12, 434, (-2147483648)), (12, 459, 100000), (12, 463, 1000000)]
def gs_c64 : List (Nat × Nat × Int64) := [(6, 61, 1000000000000), (6, 63, (-1000000000000)), (11, 178, (-1)), (8, 156, 9999), (4, 96, 9223372036854775807), (4, 90, 10), (4, 98, 3138428376721), (4, 100, 31384283767210000), (1, 65, 10), (11, 309, 120), (11, 330, 10), (11, 338, 7200), (12, 320, 1000000000000), (12, 322, (-1000000000000)), (12, 355, (-1)), (12, 350, 9999), (12, 485, 10), (12, 502, 120), (12, 507, 7200), (12, 513, 1103515245), (12, 515, 12345), (12, 517, 2147483647), (12, 519, 65536)]
def gs_ml : List (Nat × Nat × Nat) := [(13, 17, 116), (5, 17, 86), (8, 11, 25), (5, 24, 105), (11, 32, 86), (13, 21, 117), (11, 54, 106), (13, 26, 118), (11, 58, 42), (5, 36, 87), (5, 45, 107), (9, 35, 314), (9, 41, 312), (9, 49, 108), (9, 58, 109), (9, 61, 110), (9, 64, 112), (9, 68, 111), (5, 52, 49), (5, 98, 52), (5, 151, 48), (5, 83, 43), (5, 86, 108), (5, 155, 46), (5, 92, 27), (5, 140, 45), (5, 159, 26), (5, 101, 53), (5, 104, 54), (5, 169, 47), (5, 107, 56), (5, 187, 18), (5, 110, 58), (5, 137, 51), (5, 220, 59), (5, 242, 60), (5, 246, 61), (5, 224, 23), (5, 113, 57), (5, 116, 62), (5, 55, 44), (5, 119, 63), (5, 292, 64), (5, 309, 67), (5, 312, 66), (5, 315, 69), (5, 318, 72), (5, 295, 65), (5, 299, 68), (5, 328, 70), (5, 320, 312), (5, 122, 55), (5, 179, 114), (5, 125, 50), (5, 68, 2), (0, 24, 4), (0, 52, 3), (0, 40, 312), (0, 46, 1), (0, 9, 314), (0, 31, 5), (11, 64, 320), (11, 77, 166), (13, 31, 119), (13, 35, 120), (11, 90, 27), (13, 49, 122), (11, 129, 161), (11, 132, 88), (13, 53, 123), (11, 104, 157), (11, 135, 90), (8, 99, 19), (8, 112, 89), (8, 81, 79), (8, 87, 88), (8, 91, 309), (8, 96, 80), (13, 57, 124), (11, 139, 91), (13, 61, 125), (11, 142, 92), (13, 65, 126), (11, 146, 164), (11, 149, 93), (11, 152, 94), (8, 138, 314), (8, 141, 312), (13, 70, 127), (11, 155, 95), (8, 144, 96), (8, 152, 73), (6, 30, 312), (6, 36, 74), (6, 40, 75), (6, 50, 76), (6, 54, 77), (6, 65, 311), (6, 58, 78), (6, 44, 22), (13, 74, 128), (11, 158, 19), (11, 162, 308), (11, 170, 80), (13, 78, 129), (11, 175, 159), (11, 181, 97), (8, 158, 315), (8, 161, 313), (11, 185, 85), (13, 83, 130), (11, 189, 158), (11, 211, 1), (11, 221, 6), (13, 87, 131), (11, 231, 100), (8, 193, 99), (8, 185, 24), (8, 189, 98), (8, 163, 93), (8, 167, 94), (8, 176, 81), (7, 9, 310), (7, 15, 314), (7, 19, 312), (8, 180, 308), (8, 197, 9), (13, 91, 132), (11, 235, 99), (13, 95, 133), (11, 238, 168), (11, 386, 167), (11, 389, 29), (4, 64, 100), (4, 71, 316), (4, 77, 317), (4, 80, 32), (4, 102, 33), (4, 110, 31), (4, 92, 30), (4, 106, 34), (4, 84, 35), (13, 99, 134), (13, 103, 135), (11, 251, 103), (8, 201, 90), (8, 204, 310), (13, 107, 136), (13, 112, 137), (11, 255, 169), (11, 393, 11), (1, 25, 103), (1, 29, 12), (1, 33, 314), (1, 39, 312), (13, 116, 138), (11, 261, 21), (2, 60, 20), (13, 120, 139), (11, 264, 14), (1, 50, 104), (1, 54, 21), (13, 124, 140), (11, 268, 160), (11, 271, 104), (13, 128, 141), (11, 275, 15), (1, 58, 14), (1, 67, 85), (13, 133, 142), (11, 279, 37), (11, 282, 36), (11, 285, 38), (13, 137, 143), (11, 288, 312), (11, 294, 314), (11, 297, 84), (7, 31, 79), (7, 34, 83), (7, 22, 82), (7, 27, 81), (11, 304, 115), (13, 141, 144), (11, 317, 7), (13, 145, 145), (11, 320, 13), (13, 149, 146), (11, 323, 162), (13, 153, 147), (11, 326, 16), (1, 73, 19), (1, 84, 115), (1, 90, 95), (13, 158, 148), (11, 332, 163), (11, 335, 8), (13, 162, 149), (11, 340, 82), (13, 166, 150), (11, 346, 83), (13, 170, 151), (13, 174, 152), (11, 349, 165), (13, 179, 153), (13, 183, 154), (11, 355, 170), (11, 358, 102), (13, 187, 155), (11, 362, 171), (11, 400, 101), (11, 365, 39), (4, 123, 40), (13, 191, 156), (13, 39, 318), (13, 7, 121), (11, 124, 20), (13, 20, 172), (12, 123, 188), (12, 126, 190), (12, 189, 189), (13, 45, 173), (13, 25, 174), (13, 30, 210), (12, 180, 182), (12, 150, 180), (12, 154, 179), (12, 161, 184), (12, 164, 181), (12, 167, 183), (12, 272, 209), (12, 170, 178), (12, 225, 176), (12, 244, 194), (12, 200, 192), (12, 196, 191), (12, 204, 187), (12, 173, 175), (12, 247, 195), (12, 250, 196), (12, 208, 185), (12, 211, 193), (12, 253, 199), (12, 214, 197), (12, 218, 198), (12, 222, 200), (12, 228, 201), (12, 231, 204), (12, 234, 202), (12, 237, 203), (12, 257, 205), (12, 260, 206), (12, 241, 221), (12, 269, 186), (12, 311, 219), (12, 295, 218), (12, 302, 217), (12, 288, 214), (12, 314, 220), (12, 308, 216), (12, 281, 213), (12, 285, 215), (12, 263, 207), (12, 266, 208), (13, 34, 211), (13, 38, 212), (13, 73, 230), (12, 344, 228), (12, 347, 227), (12, 340, 226), (12, 336, 225), (12, 324, 222), (12, 328, 224), (12, 332, 223), (13, 82, 234), (12, 357, 231), (12, 360, 233), (12, 352, 232), (13, 44, 236), (12, 364, 235), (13, 52, 240), (12, 368, 239), (12, 371, 238), (13, 56, 244), (12, 384, 243), (12, 377, 237), (12, 380, 242), (12, 374, 241), (13, 60, 246), (12, 387, 245), (13, 64, 248), (12, 390, 247), (13, 77, 250), (12, 393, 249), (13, 69, 255), (12, 399, 251), (12, 402, 253), (12, 396, 252), (12, 405, 254), (13, 86, 262), (12, 431, 229), (12, 435, 261), (12, 427, 260), (12, 414, 259), (12, 417, 258), (13, 90, 265), (12, 450, 264), (12, 447, 263), (12, 444, 257), (12, 411, 256), (12, 408, 177), (13, 94, 266), (13, 98, 272), (12, 464, 270), (12, 460, 269), (12, 456, 268), (12, 453, 267), (12, 467, 271), (13, 102, 273), (13, 106, 275), (12, 470, 274), (13, 111, 276), (13, 115, 278), (12, 473, 277), (13, 148, 279), (13, 119, 281), (12, 476, 280), (13, 127, 283), (12, 479, 282), (13, 123, 285), (12, 482, 284), (13, 132, 286), (13, 136, 289), (12, 487, 287), (12, 490, 288), (13, 152, 291), (12, 493, 290), (13, 157, 292), (13, 140, 295), (12, 499, 294), (12, 496, 293), (13, 144, 296), (13, 161, 298), (12, 504, 297), (13, 165, 299), (13, 169, 300), (13, 173, 301), (13, 178, 302), (13, 182, 303), (13, 186, 305), (12, 521, 304), (13, 190, 306), (13, 194, 307)]
def gs_mn : List (Nat × Nat × Nat) := [(5, 325, 74), (8, 31, 71), (8, 38, 113), (8, 55, 17), (8, 56, 0), (11, 9, 41), (11, 18, 28), (11, 25, 10)]
def gs_ul : List (Nat × Nat × String) := [(5, 15, "GuestStars$Tale"), (5, 22, "GuestStars$Tape"), (5, 76, "java/lang/IllegalArgumentException"), (8, 9, "GuestStars$Names"), (8, 29, "GuestStars$Rules"), (8, 36, "GuestStars$Watches"), (8, 43, "GuestStars$Guest"), (8, 49, "GuestStars$Cloud"), (11, 7, "GuestStars$Reader"), (11, 16, "GuestStars$Pairing"), (11, 23, "GuestStars$Events"), (11, 30, "GuestStars$Tale"), (11, 108, "java/lang/IndexOutOfBoundsException"), (11, 115, "java/util/NoSuchElementException"), (13, 8, "GuestStars"), (13, 18, "GuestStarsModel")]
/-- name, code, locals, what is returned, class, kind (0 static, 1 virtual, 2 constructor) -/
def gs_ys : List (MethodName × ByteArray × Nat × Option FieldType × Nat × Nat) := [(⟨RX0, "<init>", "()V"⟩, prog_2_method_1_code, 1, none, 0, 2),
  (⟨RX0, "ageOf", "(III)I"⟩, prog_2_method_2_code, 3, (some .int), 0, 0),
  (⟨RX0, "reckonBirth", "(I)V"⟩, prog_2_method_3_code, 2, none, 0, 1),
  (⟨RX0, "cornerAge", "(IIII)I"⟩, prog_2_method_4_code, 7, (some .int), 0, 1),
  (⟨RX0, "earliestBirth", "(III)I"⟩, prog_2_method_5_code, 6, (some .int), 0, 1),
  (⟨RX0, "latestBirth", "(III)I"⟩, prog_2_method_6_code, 6, (some .int), 0, 1),
  (⟨RX0, "bornByTicks", "()I"⟩, prog_2_method_7_code, 1, (some .int), 0, 1),
  (⟨RX0, "narrowerBy", "(II)I"⟩, prog_2_method_8_code, 6, (some .int), 0, 1),
  (⟨RX0, "countPlaces", "(I)I"⟩, prog_2_method_9_code, 4, (some .int), 0, 1),
  (⟨RX0, "yearsOutside", "(LGuestStars$Guest;)I"⟩, prog_2_method_10_code, 2, (some .int), 0, 1),
  (⟨RX1, "<init>", "()V"⟩, prog_3_method_1_code, 1, none, 1, 2),
  (⟨RX1, "reckon", "(LGuestStars$Tale;I)V"⟩, prog_3_method_2_code, 5, none, 1, 1),
  (⟨RX1, "join", "(II)V"⟩, prog_3_method_3_code, 6, none, 1, 1),
  (⟨RX1, "countAll", "()I"⟩, prog_3_method_4_code, 3, (some .int), 1, 1),
  (⟨RX1, "sourceOf", "(LGuestStars$Tale;I)I"⟩, prog_3_method_5_code, 8, (some .int), 1, 1),
  (⟨RX1, "worthOf", "(LGuestStars$Tale;II)J"⟩, prog_3_method_6_code, 9, (some .long), 1, 1),
  (⟨RX1, "hasSuch", "(LGuestStars$Tale;IIII)Z"⟩, prog_3_method_7_code, 8, (some .boolean), 1, 1),
  (⟨RX2, "<init>", "()V"⟩, prog_4_method_1_code, 1, none, 2, 2),
  (⟨RX2, "clear", "()V"⟩, prog_4_method_2_code, 1, none, 2, 1),
  (⟨RX2, "isRock", "()Z"⟩, prog_4_method_3_code, 1, (some .boolean), 2, 1),
  (⟨RX2, "detail", "(I)I"⟩, prog_4_method_4_code, 2, (some .int), 2, 1),
  (⟨RX2, "countUnlike", "(LGuestStars$Guest;)I"⟩, prog_4_method_5_code, 4, (some .int), 2, 1),
  (⟨RX2, "valueOf", "(I)I"⟩, prog_4_method_6_code, 2, (some .int), 2, 1),
  (⟨RX2, "tellSides", "(I)V"⟩, prog_4_method_7_code, 2, none, 2, 1),
  (⟨RX2, "waysTold", "()I"⟩, prog_4_method_8_code, 1, (some .int), 2, 1),
  (⟨RX3, "<init>", "(I)V"⟩, prog_5_method_1_code, 3, none, 3, 2),
  (⟨RX3, "add", "(III)V"⟩, prog_5_method_2_code, 4, none, 3, 1),
  (⟨RX3, "find", "(I)I"⟩, prog_5_method_3_code, 3, (some .int), 3, 1),
  (⟨RX4, "<init>", "()V"⟩, prog_6_method_1_code, 1, none, 4, 2),
  (⟨RX4, "reckon", "(LGuestStars$Tale;I)V"⟩, prog_6_method_2_code, 7, none, 4, 1),
  (⟨RX4, "isAble", "(II)Z"⟩, prog_6_method_3_code, 3, (some .boolean), 4, 1),
  (⟨RX4, "costOf", "(II)J"⟩, prog_6_method_4_code, 6, (some .long), 4, 1),
  (⟨RX4, "seatGuest", "(I)V"⟩, prog_6_method_5_code, 6, none, 4, 1),
  (⟨RX4, "reachFrom", "(II)I"⟩, prog_6_method_6_code, 8, (some .int), 4, 1),
  (⟨RX4, "liftBy", "(JI)V"⟩, prog_6_method_7_code, 5, none, 4, 1),
  (⟨RX4, "keepPairs", "()V"⟩, prog_6_method_8_code, 3, none, 4, 1),
  (⟨RX4, "guestOf", "(I)I"⟩, prog_6_method_9_code, 3, (some .int), 4, 1),
  (⟨RX4, "guestsFor", "(I)I"⟩, prog_6_method_10_code, 4, (some .int), 4, 1),
  (⟨RX4, "cloudsFor", "(I)I"⟩, prog_6_method_11_code, 4, (some .int), 4, 1),
  (⟨RX4, "countDrawn", "()I"⟩, prog_6_method_12_code, 3, (some .int), 4, 1),
  (⟨RX4, "findsCloud", "(II)Z"⟩, prog_6_method_13_code, 5, (some .boolean), 4, 1),
  (⟨RX5, "<init>", "()V"⟩, prog_7_method_1_code, 1, none, 5, 2),
  (⟨RX5, "readLines", "(I)I"⟩, prog_7_method_2_code, 4, (some .int), 5, 1),
  (⟨RX5, "fail", "(I)V"⟩, prog_7_method_4_code, 2, none, 5, 1),
  (⟨RX5, "take", "(I)V"⟩, prog_7_method_5_code, 2, none, 5, 1),
  (⟨RX5, "number", "(II)I"⟩, prog_7_method_6_code, 4, (some .int), 5, 1),
  (⟨RX5, "newName", "(LGuestStars$Names;)I"⟩, prog_7_method_7_code, 3, (some .int), 5, 1),
  (⟨RX5, "toldName", "(LGuestStars$Names;)I"⟩, prog_7_method_8_code, 3, (some .int), 5, 1),
  (⟨RX5, "begin", "(II)V"⟩, prog_7_method_9_code, 3, none, 5, 1),
  (⟨RX5, "readLine", "()V"⟩, prog_7_method_10_code, 1, none, 5, 1),
  (⟨RX5, "readSetting", "(I)I"⟩, prog_7_method_11_code, 2, (some .int), 5, 1),
  (⟨RX5, "tellOnce", "(I)I"⟩, prog_7_method_12_code, 3, (some .int), 5, 1),
  (⟨RX5, "readReign", "()V"⟩, prog_7_method_13_code, 4, none, 5, 1),
  (⟨RX5, "readGate", "()V"⟩, prog_7_method_14_code, 4, none, 5, 1),
  (⟨RX5, "readBook", "()V"⟩, prog_7_method_15_code, 3, none, 5, 1),
  (⟨RX5, "readWatch", "()V"⟩, prog_7_method_16_code, 4, none, 5, 1),
  (⟨RX5, "startGuest", "()V"⟩, prog_7_method_17_code, 2, none, 5, 1),
  (⟨RX5, "startRock", "()V"⟩, prog_7_method_18_code, 2, none, 5, 1),
  (⟨RX5, "readDetails", "()V"⟩, prog_7_method_19_code, 5, none, 5, 1),
  (⟨RX5, "readSides", "()I"⟩, prog_7_method_20_code, 3, (some .int), 5, 1),
  (⟨RX5, "isSide", "(I)Z"⟩, prog_7_method_21_code, 1, (some .boolean), 5, 0),
  (⟨RX5, "sideBit", "(I)I"⟩, prog_7_method_22_code, 1, (some .int), 5, 0),
  (⟨RX5, "readCloud", "()V"⟩, prog_7_method_23_code, 5, none, 5, 1),
  (⟨RX5, "readSort", "()V"⟩, prog_7_method_24_code, 5, none, 5, 1),
  (⟨RX5, "readOperand", "()V"⟩, prog_7_method_25_code, 2, none, 5, 1),
  (⟨RX5, "readOperator", "()Z"⟩, prog_7_method_26_code, 4, (some .boolean), 5, 1),
  (⟨RX5, "countKnot", "()V"⟩, prog_7_method_27_code, 1, none, 5, 1),
  (⟨RX5, "pushPending", "(I)V"⟩, prog_7_method_28_code, 2, none, 5, 1),
  (⟨RX5, "settlePending", "(I)V"⟩, prog_7_method_29_code, 2, none, 5, 1),
  (⟨RX5, "isRuleName", "(I)Z"⟩, prog_7_method_30_code, 1, (some .boolean), 5, 0),
  (⟨RX5, "rankOf", "(I)I"⟩, prog_7_method_31_code, 1, (some .int), 5, 0),
  (⟨RX6, "<init>", "()V"⟩, prog_8_method_1_code, 1, none, 6, 2),
  (⟨RX6, "add", "(II)V"⟩, prog_8_method_2_code, 3, none, 6, 1),
  (⟨RX6, "evaluate", "(IILGuestStars$Guest;)J"⟩, prog_8_method_3_code, 7, (some .long), 6, 1),
  (⟨RX6, "isSign", "(I)Z"⟩, prog_8_method_4_code, 1, (some .boolean), 6, 0),
  (⟨RX6, "apply", "(IJJ)J"⟩, prog_8_method_5_code, 6, (some .long), 6, 1),
  (⟨RX6, "within", "(J)J"⟩, prog_8_method_6_code, 3, (some .long), 6, 1),
  (⟨RX6, "product", "(JJ)J"⟩, prog_8_method_7_code, 5, (some .long), 6, 1),
  (⟨RX6, "quotient", "(JJ)J"⟩, prog_8_method_8_code, 5, (some .long), 6, 1),
  (⟨RX7, "monthBegin", "(II)I"⟩, prog_9_method_2_code, 2, (some .int), 7, 0),
  (⟨RX7, "monthLength", "(I)I"⟩, prog_9_method_3_code, 1, (some .int), 7, 0),
  (⟨RX7, "apart", "(IIII)I"⟩, prog_9_method_4_code, 6, (some .int), 7, 0),
  (⟨RX7, "sunAt", "(I)I"⟩, prog_9_method_5_code, 1, (some .int), 7, 0),
  (⟨RX7, "hides", "(II)Z"⟩, prog_9_method_6_code, 2, (some .boolean), 7, 0),
  (⟨RX7, "monthsSeen", "(I)I"⟩, prog_9_method_7_code, 3, (some .int), 7, 0),
  (⟨RX7, "leastTerms", "(JJI)J"⟩, prog_9_method_8_code, 12, (some .long), 7, 0),
  (⟨RX8, "<init>", "()V"⟩, prog_10_method_1_code, 2, none, 8, 2),
  (⟨RX8, "clear", "()V"⟩, prog_10_method_2_code, 1, none, 8, 1),
  (⟨RX8, "roundOf", "(I)I"⟩, prog_10_method_3_code, 2, (some .int), 8, 1),
  (⟨RX8, "dayIn", "(III)I"⟩, prog_10_method_4_code, 6, (some .int), 8, 1),
  (⟨RX8, "dayOf", "(LGuestStars$Guest;)I"⟩, prog_10_method_5_code, 2, (some .int), 8, 1),
  (⟨RX8, "monthsWithRound", "(LGuestStars$Guest;)I"⟩, prog_10_method_6_code, 4, (some .int), 8, 1),
  (⟨RX8, "yearsWithRound", "(LGuestStars$Guest;I)I"⟩, prog_10_method_7_code, 7, (some .int), 8, 1),
  (⟨RX8, "placeX", "(LGuestStars$Guest;I)I"⟩, prog_10_method_8_code, 4, (some .int), 8, 1),
  (⟨RX8, "placeY", "(LGuestStars$Guest;I)I"⟩, prog_10_method_9_code, 5, (some .int), 8, 1),
  (⟨RX8, "sortOf", "(LGuestStars$Guest;)I"⟩, prog_10_method_10_code, 5, (some .int), 8, 1),
  (⟨RX8, "sortValue", "(LGuestStars$Guest;I)J"⟩, prog_10_method_11_code, 4, (some .long), 8, 1),
  (⟨RX8, "sortWeight", "(LGuestStars$Guest;I)J"⟩, prog_10_method_12_code, 5, (some .long), 8, 1),
  (⟨RX8, "readingToll", "(LGuestStars$Guest;LGuestStars$Cloud;I)I"⟩, prog_10_method_13_code, 5, (some .int), 8, 1),
  (⟨RX8, "bestReading", "(LGuestStars$Guest;LGuestStars$Cloud;)I"⟩, prog_10_method_14_code, 5, (some .int), 8, 1),
  (⟨RX8, "tollOf", "(LGuestStars$Guest;LGuestStars$Cloud;)I"⟩, prog_10_method_15_code, 5, (some .int), 8, 1),
  (⟨RX8, "cloudsByPlace", "(LGuestStars$Guest;II)I"⟩, prog_10_method_16_code, 8, (some .int), 8, 1),
  (⟨RX8, "hasCloudNear", "(III)Z"⟩, prog_10_method_17_code, 5, (some .boolean), 8, 1),
  (⟨RX8, "areOne", "(LGuestStars$Guest;LGuestStars$Guest;)Z"⟩, prog_10_method_18_code, 6, (some .boolean), 8, 1),
  (⟨RX8, "isCopyOf", "(II)Z"⟩, prog_10_method_19_code, 5, (some .boolean), 8, 1),
  (⟨RX9, "<init>", "()V"⟩, prog_11_method_1_code, 4, none, 9, 2),
  (⟨RX9, "put", "(I)V"⟩, prog_11_method_2_code, 3, none, 9, 1),
  (⟨RX9, "start", "(I)V"⟩, prog_11_method_3_code, 2, none, 9, 1),
  (⟨RX9, "advance", "()V"⟩, prog_11_method_4_code, 2, none, 9, 1),
  (⟨RX9, "takeWord", "()V"⟩, prog_11_method_5_code, 3, none, 9, 1),
  (⟨RX9, "takeNumber", "()V"⟩, prog_11_method_6_code, 1, none, 9, 1),
  (⟨RX9, "widenSign", "()V"⟩, prog_11_method_7_code, 2, none, 9, 1),
  (⟨RX9, "signKind", "(I)I"⟩, prog_11_method_8_code, 1, (some .int), 9, 0),
  (⟨RX10, "<init>", "()V"⟩, prog_12_method_1_code, 1, none, 10, 2),
  (⟨RX10, "add", "(III)V"⟩, prog_12_method_2_code, 4, none, 10, 1),
  (⟨RX10, "shareOf", "(I)I"⟩, prog_12_method_3_code, 4, (some .int), 10, 1),
  (⟨RX11, "<init>", "()V"⟩, prog_1_method_1_code, 1, none, 11, 2),
  (⟨RX11, "feed", "(IIIII)I"⟩, prog_1_method_2_code, 7, (some .int), 11, 1),
  (⟨RX11, "text", "(I)I"⟩, prog_1_method_3_code, 4, (some .int), 11, 1),
  (⟨RX11, "fault", "(I)I"⟩, prog_1_method_4_code, 2, (some .int), 11, 1),
  (⟨RX11, "named", "(II)I"⟩, prog_1_method_5_code, 3, (some .int), 11, 1),
  (⟨RX11, "look", "(II)I"⟩, prog_1_method_6_code, 3, (some .int), 11, 1),
  (⟨RX11, "round", "(I)I"⟩, prog_1_method_7_code, 2, (some .int), 11, 1),
  (⟨RX11, "day", "(I)I"⟩, prog_1_method_8_code, 2, (some .int), 11, 1),
  (⟨RX11, "months", "(I)I"⟩, prog_1_method_9_code, 2, (some .int), 11, 1),
  (⟨RX11, "years", "(II)I"⟩, prog_1_method_10_code, 3, (some .int), 11, 1),
  (⟨RX11, "place", "(III)I"⟩, prog_1_method_11_code, 5, (some .int), 11, 1),
  (⟨RX11, "sort", "(I)I"⟩, prog_1_method_12_code, 2, (some .int), 11, 1),
  (⟨RX11, "mend", "(II)I"⟩, prog_1_method_13_code, 7, (some .int), 11, 1),
  (⟨RX11, "odds", "(III)J"⟩, prog_1_method_14_code, 8, (some .long), 11, 1),
  (⟨RX11, "born", "(II)I"⟩, prog_1_method_15_code, 4, (some .int), 11, 1),
  (⟨RX11, "toll", "(II)I"⟩, prog_1_method_16_code, 3, (some .int), 11, 1),
  (⟨RX11, "reading", "(II)I"⟩, prog_1_method_17_code, 3, (some .int), 11, 1),
  (⟨RX11, "pairs", "(I)I"⟩, prog_1_method_18_code, 2, (some .int), 11, 1),
  (⟨RX11, "pair", "(I)I"⟩, prog_1_method_19_code, 2, (some .int), 11, 1),
  (⟨RX11, "one", "(II)I"⟩, prog_1_method_20_code, 3, (some .int), 11, 1),
  (⟨RX11, "known", "(I)Z"⟩, prog_1_method_21_code, 2, (some .boolean), 11, 1),
  (⟨RX11, "event", "(I)I"⟩, prog_1_method_22_code, 2, (some .int), 11, 1),
  (⟨RX11, "slips", "(II)I"⟩, prog_1_method_23_code, 3, (some .int), 11, 1),
  (⟨RX11, "copied", "(I)I"⟩, prog_1_method_24_code, 2, (some .int), 11, 1),
  (⟨RX11, "from", "(II)I"⟩, prog_1_method_25_code, 3, (some .int), 11, 1),
  (⟨RX11, "worth", "(II)J"⟩, prog_1_method_26_code, 3, (some .long), 11, 1),
  (⟨RX11, "said", "(I)I"⟩, prog_1_method_27_code, 4, (some .int), 11, 1),
  (⟨RX11, "untold", "(II)J"⟩, prog_1_method_28_code, 12, (some .long), 11, 1),
  (⟨RX11, "next", "(II)I"⟩, prog_1_method_29_code, 7, (some .int), 11, 1),
  (⟨RX11, "events", "()I"⟩, prog_1_method_30_code, 1, (some .int), 11, 1),
  (⟨RX11, "share", "(I)I"⟩, prog_1_method_31_code, 2, (some .int), 11, 1),
  (⟨RX11, "many", "(IIII)J"⟩, prog_1_method_32_code, 9, (some .long), 11, 1),
  (⟨RX11, "chance", "(II)I"⟩, prog_1_method_33_code, 5, (some .int), 11, 1),
  (⟨RX11, "sun", "(I)I"⟩, prog_1_method_34_code, 2, (some .int), 11, 1),
  (⟨RX11, "hidden", "(I)I"⟩, prog_1_method_35_code, 4, (some .int), 11, 1),
  (⟨RX11, "seen", "(I)I"⟩, prog_1_method_36_code, 2, (some .int), 11, 1),
  (⟨RX11, "doubt", "(IZ)Z"⟩, prog_1_method_37_code, 3, (some .boolean), 11, 1),
  (⟨RX11, "doubted", "()I"⟩, prog_1_method_38_code, 1, (some .int), 11, 1),
  (⟨RX11, "draws", "(III)I"⟩, prog_1_method_39_code, 8, (some .int), 11, 1),
  (⟨RX11, "luck", "(II)I"⟩, prog_1_method_40_code, 5, (some .int), 11, 1),
  (⟨RX11, "count", "(I)I"⟩, prog_1_method_41_code, 2, (some .int), 11, 1),
  (⟨RX11, "isGuest", "(I)Z"⟩, prog_1_method_42_code, 2, (some .boolean), 11, 1),
  (⟨RX11, "isCloud", "(I)Z"⟩, prog_1_method_43_code, 2, (some .boolean), 11, 1),
  (⟨RX11, "isSort", "(I)Z"⟩, prog_1_method_44_code, 2, (some .boolean), 11, 1),
  (⟨RX11, "isBook", "(I)Z"⟩, prog_1_method_45_code, 2, (some .boolean), 11, 1),
  (⟨RX11, "isDay", "(I)Z"⟩, prog_1_method_46_code, 1, (some .boolean), 11, 0),
  (⟨RX11, "isYear", "(I)Z"⟩, prog_1_method_47_code, 1, (some .boolean), 11, 0),
  (⟨RX11, "isWidth", "(I)Z"⟩, prog_1_method_48_code, 1, (some .boolean), 11, 0),
  (⟨RX11, "isPart", "(I)Z"⟩, prog_1_method_49_code, 1, (some .boolean), 11, 0),
  (⟨RX11, "isDoubted", "(I)Z"⟩, prog_1_method_50_code, 2, (some .boolean), 11, 1),
  (⟨RX11, "forgetReckoned", "()V"⟩, prog_1_method_51_code, 1, none, 11, 1),
  (⟨RX11, "trusted", "()I"⟩, prog_1_method_52_code, 1, (some .int), 11, 1),
  (⟨RX11, "reckonPairs", "()V"⟩, prog_1_method_53_code, 1, none, 11, 1),
  (⟨RX11, "reckonEvents", "()V"⟩, prog_1_method_54_code, 1, none, 11, 1),
  (⟨RX11, "roll", "()I"⟩, prog_1_method_55_code, 1, (some .int), 11, 1),
  (⟨RX11, "drawPlaces", "()V"⟩, prog_1_method_56_code, 6, none, 11, 1),
  (⟨RX12, "<init>", "()V"⟩, prog_14_method_1_code, 1, none, 12, 2),
  (⟨RX12, "thrown", "()I"⟩, prog_14_method_2_code, 1, (some .int), 12, 1),
  (⟨RX12, "feed", "(IIIII)I"⟩, prog_14_method_3_code, 8, (some .int), 12, 1),
  (⟨RX12, "isIn", "(III)Z"⟩, prog_14_method_4_code, 3, (some .boolean), 12, 0),
  (⟨RX12, "isOf", "(II)Z"⟩, prog_14_method_5_code, 2, (some .boolean), 12, 0),
  (⟨RX12, "sizeOf", "(I)I"⟩, prog_14_method_6_code, 1, (some .int), 12, 0),
  (⟨RX12, "wrong", "(I)Z"⟩, prog_14_method_7_code, 2, (some .boolean), 12, 1),
  (⟨RX12, "wordAt", "(II)I"⟩, prog_14_method_8_code, 8, (some .int), 12, 1),
  (⟨RX12, "isSmall", "(I)Z"⟩, prog_14_method_9_code, 2, (some .boolean), 12, 1),
  (⟨RX12, "isDigit", "(I)Z"⟩, prog_14_method_10_code, 2, (some .boolean), 12, 1),
  (⟨RX12, "take", "()V"⟩, prog_14_method_11_code, 1, none, 12, 1),
  (⟨RX12, "takeSign", "()V"⟩, prog_14_method_12_code, 4, none, 12, 1),
  (⟨RX12, "packed", "(II)I"⟩, prog_14_method_13_code, 5, (some .int), 12, 1),
  (⟨RX12, "isKey", "(I)Z"⟩, prog_14_method_14_code, 2, (some .boolean), 12, 1),
  (⟨RX12, "isSign", "(I)Z"⟩, prog_14_method_15_code, 2, (some .boolean), 12, 1),
  (⟨RX12, "number", "(II)Z"⟩, prog_14_method_16_code, 3, (some .boolean), 12, 1),
  (⟨RX12, "plain", "()V"⟩, prog_14_method_17_code, 2, none, 12, 1),
  (⟨RX12, "copies", "([II)V"⟩, prog_14_method_18_code, 3, none, 12, 0),
  (⟨RX12, "keep", "()V"⟩, prog_14_method_19_code, 2, none, 12, 1),
  (⟨RX12, "find", "([IIII)I"⟩, prog_14_method_20_code, 6, (some .int), 12, 1),
  (⟨RX12, "newName", "([III)Z"⟩, prog_14_method_21_code, 4, (some .boolean), 12, 1),
  (⟨RX12, "oldName", "([III)Z"⟩, prog_14_method_22_code, 4, (some .boolean), 12, 1),
  (⟨RX12, "reignLine", "()Z"⟩, prog_14_method_23_code, 2, (some .boolean), 12, 1),
  (⟨RX12, "gateLine", "()Z"⟩, prog_14_method_24_code, 2, (some .boolean), 12, 1),
  (⟨RX12, "bookLine", "()Z"⟩, prog_14_method_25_code, 2, (some .boolean), 12, 1),
  (⟨RX12, "newGuest", "()I"⟩, prog_14_method_26_code, 1, (some .int), 12, 1),
  (⟨RX12, "plainGuest", "(I)V"⟩, prog_14_method_27_code, 3, none, 12, 1),
  (⟨RX12, "guestLine", "(Z)Z"⟩, prog_14_method_28_code, 5, (some .boolean), 12, 1),
  (⟨RX12, "guestWord", "()I"⟩, prog_14_method_29_code, 1, (some .int), 12, 1),
  (⟨RX12, "guestHas", "(II)Z"⟩, prog_14_method_30_code, 3, (some .boolean), 12, 1),
  (⟨RX12, "kept", "(III)Z"⟩, prog_14_method_31_code, 4, (some .boolean), 12, 1),
  (⟨RX12, "isSide", "()Z"⟩, prog_14_method_32_code, 1, (some .boolean), 12, 1),
  (⟨RX12, "nearRead", "(I)Z"⟩, prog_14_method_33_code, 3, (some .boolean), 12, 1),
  (⟨RX12, "cloudLine", "()Z"⟩, prog_14_method_34_code, 5, (some .boolean), 12, 1),
  (⟨RX12, "sortLine", "()Z"⟩, prog_14_method_35_code, 2, (some .boolean), 12, 1),
  (⟨RX12, "watchLine", "()Z"⟩, prog_14_method_36_code, 2, (some .boolean), 12, 1),
  (⟨RX12, "ruleLine", "(I)Z"⟩, prog_14_method_37_code, 2, (some .boolean), 12, 1),
  (⟨RX12, "lineRead", "()Z"⟩, prog_14_method_38_code, 4, (some .boolean), 12, 1),
  (⟨RX12, "text", "(I)I"⟩, prog_14_method_39_code, 3, (some .int), 12, 1),
  (⟨RX12, "fault", "(I)I"⟩, prog_14_method_40_code, 2, (some .int), 12, 1),
  (⟨RX12, "named", "(II)I"⟩, prog_14_method_41_code, 3, (some .int), 12, 1),
  (⟨RX12, "rank", "(I)I"⟩, prog_14_method_42_code, 1, (some .int), 12, 0),
  (⟨RX12, "grown", "(III)V"⟩, prog_14_method_43_code, 5, none, 12, 1),
  (⟨RX12, "dropHeld", "()I"⟩, prog_14_method_44_code, 1, (some .int), 12, 1),
  (⟨RX12, "bind", "(I)V"⟩, prog_14_method_45_code, 5, none, 12, 1),
  (⟨RX12, "isCounted", "()Z"⟩, prog_14_method_46_code, 1, (some .boolean), 12, 1),
  (⟨RX12, "waitsFor", "(I)V"⟩, prog_14_method_47_code, 2, none, 12, 1),
  (⟨RX12, "leafRead", "()Z"⟩, prog_14_method_48_code, 2, (some .boolean), 12, 1),
  (⟨RX12, "signs", "()Z"⟩, prog_14_method_49_code, 2, (some .boolean), 12, 1),
  (⟨RX12, "sumRead", "()Z"⟩, prog_14_method_50_code, 1, (some .boolean), 12, 1),
  (⟨RX12, "bounded", "(J)J"⟩, prog_14_method_51_code, 3, (some .long), 12, 1),
  (⟨RX12, "compares", "(IJJ)Z"⟩, prog_14_method_52_code, 5, (some .boolean), 12, 0),
  (⟨RX12, "times", "(JJ)J"⟩, prog_14_method_53_code, 6, (some .long), 12, 1),
  (⟨RX12, "valueOf", "(I)J"⟩, prog_14_method_54_code, 6, (some .long), 12, 1),
  (⟨RX12, "sumFor", "(II)J"⟩, prog_14_method_55_code, 4, (some .long), 12, 1),
  (⟨RX12, "sortOf", "(I)I"⟩, prog_14_method_56_code, 5, (some .int), 12, 1),
  (⟨RX12, "isGuest", "(I)Z"⟩, prog_14_method_57_code, 2, (some .boolean), 12, 1),
  (⟨RX12, "isCloud", "(I)Z"⟩, prog_14_method_58_code, 2, (some .boolean), 12, 1),
  (⟨RX12, "sort", "(I)I"⟩, prog_14_method_59_code, 2, (some .int), 12, 1),
  (⟨RX12, "oddsOf", "(II)J"⟩, prog_14_method_60_code, 5, (some .long), 12, 1),
  (⟨RX12, "common", "(JJ)J"⟩, prog_14_method_61_code, 10, (some .long), 12, 0),
  (⟨RX12, "least", "(JJI)J"⟩, prog_14_method_62_code, 7, (some .long), 12, 0),
  (⟨RX12, "odds", "(III)J"⟩, prog_14_method_63_code, 7, (some .long), 12, 1),
  (⟨RX12, "fails", "(I)I"⟩, prog_14_method_64_code, 2, (some .int), 12, 1),
  (⟨RX12, "look", "(II)I"⟩, prog_14_method_65_code, 3, (some .int), 12, 1),
  (⟨RX12, "isRock", "(I)Z"⟩, prog_14_method_66_code, 2, (some .boolean), 12, 1),
  (⟨RX12, "roundOf", "(I)I"⟩, prog_14_method_67_code, 2, (some .int), 12, 1),
  (⟨RX12, "isDay", "(I)Z"⟩, prog_14_method_68_code, 1, (some .boolean), 12, 0),
  (⟨RX12, "round", "(I)I"⟩, prog_14_method_69_code, 2, (some .int), 12, 1),
  (⟨RX12, "beginOf", "(II)I"⟩, prog_14_method_70_code, 2, (some .int), 12, 0),
  (⟨RX12, "dayIn", "(III)I"⟩, prog_14_method_71_code, 6, (some .int), 12, 1),
  (⟨RX12, "dayOf", "(I)I"⟩, prog_14_method_72_code, 2, (some .int), 12, 1),
  (⟨RX12, "day", "(I)I"⟩, prog_14_method_73_code, 2, (some .int), 12, 1),
  (⟨RX12, "monthsOf", "(I)I"⟩, prog_14_method_74_code, 4, (some .int), 12, 1),
  (⟨RX12, "months", "(I)I"⟩, prog_14_method_75_code, 2, (some .int), 12, 1),
  (⟨RX12, "yearsOf", "(II)I"⟩, prog_14_method_76_code, 6, (some .int), 12, 1),
  (⟨RX12, "years", "(II)I"⟩, prog_14_method_77_code, 3, (some .int), 12, 1),
  (⟨RX12, "manyOf", "(I)I"⟩, prog_14_method_78_code, 3, (some .int), 12, 0),
  (⟨RX12, "mend", "(II)I"⟩, prog_14_method_79_code, 6, (some .int), 12, 1),
  (⟨RX12, "hasGate", "(I)Z"⟩, prog_14_method_80_code, 2, (some .boolean), 12, 1),
  (⟨RX12, "sideOf", "(II)I"⟩, prog_14_method_81_code, 3, (some .int), 12, 1),
  (⟨RX12, "placeX", "(II)I"⟩, prog_14_method_82_code, 5, (some .int), 12, 1),
  (⟨RX12, "placeY", "(II)I"⟩, prog_14_method_83_code, 5, (some .int), 12, 1),
  (⟨RX12, "place", "(III)I"⟩, prog_14_method_84_code, 4, (some .int), 12, 1),
  (⟨RX12, "around", "(II)I"⟩, prog_14_method_85_code, 3, (some .int), 12, 0),
  (⟨RX12, "apart", "(IIII)I"⟩, prog_14_method_86_code, 6, (some .int), 12, 0),
  (⟨RX12, "ageOf", "(IIII)I"⟩, prog_14_method_87_code, 5, (some .int), 12, 0),
  (⟨RX12, "lessBy", "(II)I"⟩, prog_14_method_88_code, 2, (some .int), 12, 0),
  (⟨RX12, "layBorn", "(IIIII)V"⟩, prog_14_method_89_code, 13, none, 12, 1),
  (⟨RX12, "layCloud", "(I)V"⟩, prog_14_method_90_code, 2, none, 12, 1),
  (⟨RX12, "born", "(II)I"⟩, prog_14_method_91_code, 5, (some .int), 12, 1),
  (⟨RX12, "placeToll", "(II)I"⟩, prog_14_method_92_code, 8, (some .int), 12, 1),
  (⟨RX12, "tollOf", "(II)I"⟩, prog_14_method_93_code, 6, (some .int), 12, 1),
  (⟨RX12, "toll", "(II)I"⟩, prog_14_method_94_code, 3, (some .int), 12, 1),
  (⟨RX12, "reading", "(II)I"⟩, prog_14_method_95_code, 4, (some .int), 12, 1),
  (⟨RX12, "knownMany", "()I"⟩, prog_14_method_96_code, 1, (some .int), 12, 1),
  (⟨RX12, "counts", "(I)Z"⟩, prog_14_method_97_code, 2, (some .boolean), 12, 1),
  (⟨RX12, "layTolls", "()V"⟩, prog_14_method_98_code, 4, none, 12, 1),
  (⟨RX12, "layPairs", "()V"⟩, prog_14_method_99_code, 8, none, 12, 1),
  (⟨RX12, "pairMany", "()I"⟩, prog_14_method_100_code, 3, (some .int), 12, 1),
  (⟨RX12, "pairs", "(I)I"⟩, prog_14_method_101_code, 4, (some .int), 12, 1),
  (⟨RX12, "pair", "(I)I"⟩, prog_14_method_102_code, 2, (some .int), 12, 1),
  (⟨RX12, "isOne", "(II)Z"⟩, prog_14_method_103_code, 6, (some .boolean), 12, 1),
  (⟨RX12, "one", "(II)I"⟩, prog_14_method_104_code, 3, (some .int), 12, 1),
  (⟨RX12, "known", "(I)Z"⟩, prog_14_method_105_code, 2, (some .boolean), 12, 1),
  (⟨RX12, "layEvents", "()V"⟩, prog_14_method_106_code, 5, none, 12, 1),
  (⟨RX12, "event", "(I)I"⟩, prog_14_method_107_code, 2, (some .int), 12, 1),
  (⟨RX12, "events", "()I"⟩, prog_14_method_108_code, 3, (some .int), 12, 1),
  (⟨RX12, "slipsOf", "(II)I"⟩, prog_14_method_109_code, 5, (some .int), 12, 1),
  (⟨RX12, "slips", "(II)I"⟩, prog_14_method_110_code, 3, (some .int), 12, 1),
  (⟨RX12, "isFrom", "(II)Z"⟩, prog_14_method_111_code, 4, (some .boolean), 12, 1),
  (⟨RX12, "from", "(II)I"⟩, prog_14_method_112_code, 3, (some .int), 12, 1),
  (⟨RX12, "copiedOf", "(I)I"⟩, prog_14_method_113_code, 4, (some .int), 12, 1),
  (⟨RX12, "copied", "(I)I"⟩, prog_14_method_114_code, 2, (some .int), 12, 1),
  (⟨RX12, "worth", "(II)J"⟩, prog_14_method_115_code, 8, (some .long), 12, 1),
  (⟨RX12, "goers", "(I)I"⟩, prog_14_method_116_code, 4, (some .int), 12, 1),
  (⟨RX12, "goesWith", "(I)I"⟩, prog_14_method_117_code, 4, (some .int), 12, 1),
  (⟨RX12, "said", "(I)I"⟩, prog_14_method_118_code, 5, (some .int), 12, 1),
  (⟨RX12, "shareOf", "(I)I"⟩, prog_14_method_119_code, 4, (some .int), 12, 1),
  (⟨RX12, "share", "(I)I"⟩, prog_14_method_120_code, 2, (some .int), 12, 1),
  (⟨RX12, "many", "(IIII)J"⟩, prog_14_method_121_code, 11, (some .long), 12, 1),
  (⟨RX12, "sunOf", "(I)I"⟩, prog_14_method_122_code, 1, (some .int), 12, 0),
  (⟨RX12, "seenOf", "(I)I"⟩, prog_14_method_123_code, 3, (some .int), 12, 0),
  (⟨RX12, "untold", "(II)J"⟩, prog_14_method_124_code, 10, (some .long), 12, 1),
  (⟨RX12, "next", "(II)I"⟩, prog_14_method_125_code, 11, (some .int), 12, 1),
  (⟨RX12, "chanceFor", "(II)I"⟩, prog_14_method_126_code, 6, (some .int), 12, 1),
  (⟨RX12, "chance", "(II)I"⟩, prog_14_method_127_code, 6, (some .int), 12, 1),
  (⟨RX12, "sun", "(I)I"⟩, prog_14_method_128_code, 2, (some .int), 12, 1),
  (⟨RX12, "hidden", "(I)I"⟩, prog_14_method_129_code, 2, (some .int), 12, 1),
  (⟨RX12, "seen", "(I)I"⟩, prog_14_method_130_code, 2, (some .int), 12, 1),
  (⟨RX12, "doubt", "(IZ)Z"⟩, prog_14_method_131_code, 3, (some .boolean), 12, 1),
  (⟨RX12, "doubted", "()I"⟩, prog_14_method_132_code, 1, (some .int), 12, 1),
  (⟨RX12, "drawn", "(I)I"⟩, prog_14_method_133_code, 2, (some .int), 12, 1),
  (⟨RX12, "draws", "(III)I"⟩, prog_14_method_134_code, 10, (some .int), 12, 1),
  (⟨RX12, "luck", "(II)I"⟩, prog_14_method_135_code, 7, (some .int), 12, 1),
  (⟨RX12, "count", "(I)I"⟩, prog_14_method_136_code, 2, (some .int), 12, 1),
  (⟨RJ6, "bitCount", "(I)I"⟩, prog_21_method_49_code, 1, (some .int), 14, 0),
  (⟨RJ9, "floorMod", "(II)I"⟩, prog_22_method_50_code, 3, (some .int), 16, 0),
  (⟨RJ9, "abs", "(I)I"⟩, prog_22_method_59_code, 1, (some .int), 16, 0),
  (⟨RJ9, "abs", "(J)J"⟩, prog_22_method_61_code, 2, (some .long), 16, 0),
  (⟨RJ9, "max", "(II)I"⟩, prog_22_method_65_code, 2, (some .int), 16, 0),
  (⟨RJ9, "max", "(JJ)J"⟩, prog_22_method_66_code, 4, (some .long), 16, 0),
  (⟨RJ9, "min", "(II)I"⟩, prog_22_method_69_code, 2, (some .int), 16, 0),
  (⟨RJ9, "min", "(JJ)J"⟩, prog_22_method_70_code, 4, (some .long), 16, 0),
  (⟨RJ7, "fill", "([JJ)V"⟩, prog_30_method_101_code, 5, none, 15, 0),
  (⟨RJ7, "fill", "([II)V"⟩, prog_30_method_103_code, 4, none, 15, 0),
  (⟨RL, "look", "(LGuestStars;II[J)I"⟩, method_3_code, 5, (some .int), 13, 0),
  (⟨RL, "law", "([I)Z"⟩, code, 7, (some .boolean), 13, 0),
  (⟨RX5, "giveFor", "(LGuestStars$Tale;)LGuestStars$Tale;"⟩, prog_7_method_3_code, 3, (some (.object "GuestStars$Tale")), 5, 1)]
def gs_y (k : Nat) : MethodName × ByteArray × Nat × Option FieldType × Nat × Nat := gs_ys.getD k (⟨"", "", ""⟩, ⟨#[]⟩, 0, none, 0, 9)
def gs_cl? (c : Nat) : vw_C := vwCl.getD c ("", TX0, 0)
def gs_fw (x : Nat × Nat × Nat × Nat) : Cond := .fieldLink (gs_own x.1) x.2.1 ((gs_cl? x.2.2.1).2.1 x.2.2.2).1 ((gs_cl? x.2.2.1).2.1 x.2.2.2).2.1 ((gs_cl? x.2.2.1).2.1 x.2.2.2).2.2.1
def gs_cw (x : Nat × Nat × Int32) : Cond := .constant (gs_own x.1) x.2.1 x.2.2
def gs_cwJ (x : Nat × Nat × Int64) : Cond := .constantLong (gs_own x.1) x.2.1 x.2.2
def gs_mw (x : Nat × Nat × Nat) : Cond := .methodLink (gs_own x.1) x.2.1 (gs_y x.2.2).1
def gs_mnw (x : Nat × Nat × Nat) : Cond := .methodLinkNest (gs_own x.1) x.2.1 (gs_y x.2.2).1 RX11
def gs_uw (x : Nat × Nat × String) : Cond := .classLink (gs_own x.1) x.2.1 x.2.2
/-- a method's own words -/
def gs_ow (k : Nat) : List Cond := (.initialized (gs_y k).1.cls) :: (match (gs_y k).2.2.2.2.2 with
  | 0 => [.static (gs_y k).1]
  | 1 => [.instanceMethod (gs_y k).1, .selects (gs_y k).1.cls (gs_y k).1 (gs_y k).1]
  | _ => [.instanceMethod (gs_y k).1])
def gs_kw (k : Nat) : Cond := .code (gs_y k).1 (gs_y k).2.1 (gs_y k).2.2.1 (gs_y k).2.2.2.1

def gs_nm : Nat := 321
def gs_sk : List Nat → List Cond → List Cond → Bool
  | [], [], _ => true
  | n :: ns, w :: ws, tbl => match tbl.drop n with
    | [] => false
    | x :: r => decide (x = w) && goodWord w && gs_sk ns ws r
  | _, _, _ => false
theorem gs_sk_ok : ∀ (ns : List Nat) (ws tbl : List Cond), gs_sk ns ws tbl = true → ∀ w ∈ ws, w ∈ tbl ∧ goodWord w = true
  | [], [], _, _, w, hw => by cases hw
  | n :: ns, v :: ws, tbl, h, w, hw => by
    unfold gs_sk at h
    cases hd : tbl.drop n with
    | nil => rw [hd] at h; cases h
    | cons x r =>
      rw [hd] at h
      simp only [Bool.and_eq_true, decide_eq_true_eq] at h
      obtain ⟨⟨h1, h2⟩, h3⟩ := h
      have hsub : ∀ y ∈ x :: r, y ∈ tbl := fun y hy => List.mem_of_mem_drop (by rw [hd]; exact hy)
      rcases List.mem_cons.mp hw with rfl | hw
      · exact ⟨hsub _ (by rw [h1]; exact List.mem_cons_self), h2⟩
      · have h4 := gs_sk_ok ns ws r h3 w hw
        exact ⟨hsub _ (List.mem_cons_of_mem _ h4.1), h4.2⟩
  | [], _ :: _, _, h, _, _ => by simp [gs_sk] at h
  | _ :: _, [], _, h, _, _ => by simp [gs_sk] at h
set_option maxRecDepth 1000000 in
theorem gs_fl_ok_0 : ∀ w ∈ ([(3, 9, 3, 0), (3, 15, 3, 1), (8, 116, 3, 1), (5, 193, 3, 1), (3, 18, 3, 2), (8, 123, 3, 2), (5, 196, 3, 2), (3, 21, 3, 3), (8, 64, 3, 3), (5, 148, 3, 3), (11, 180, 3, 3), (6, 9, 6, 0), (6, 15, 6, 1), (6, 18, 6, 2), (6, 22, 6, 3), (8, 67, 6, 3), (5, 306, 6, 3), (11, 373, 6, 3), (6, 26, 6, 4), (8, 148, 6, 4), (10, 9, 9, 0), (10, 15, 9, 1), (10, 18, 9, 2), (10, 21, 9, 3), (8, 68, 9, 3), (5, 176, 9, 3), (11, 368, 9, 3), (2, 9, 2, 0), (8, 120, 2, 0), (5, 190, 2, 0), (2, 15, 2, 1), (8, 103, 2, 1), (1, 77, 2, 1), (0, 74, 2, 1), (5, 199, 2, 1), (2, 18, 2, 2), (0, 69, 2, 2), (5, 202, 2, 2), (2, 21, 2, 3), (8, 106, 2, 3), (11, 167, 2, 3), (5, 205, 2, 3), (2, 24, 2, 4), (8, 109, 2, 4), (5, 208, 2, 4), (2, 27, 2, 5), (8, 126, 2, 5), (5, 214, 2, 5), (11, 343, 2, 5), (2, 30, 2, 6), (8, 132, 2, 6), (5, 217, 2, 6), (2, 33, 2, 7), (2, 36, 2, 8), (8, 129, 2, 8), (2, 39, 2, 9), (8, 135, 2, 9), (2, 42, 2, 10), (5, 227, 2, 10), (2, 45, 2, 11)] : List _).map gs_fw, gs_gw w := gs_sk_ok [185, 0, 0, 0, 0, 0, 0, 0, 0, 0, 0, 16, 0, 0, 0, 0, 0, 0, 0, 0, 18, 0, 0, 0, 0, 0, 0, 18, 0, 0, 0, 0, 0, 0, 0, 0, 0, 0, 0, 0, 0, 0, 0, 0, 0, 0, 0, 0, 0, 0, 0, 0, 0, 0, 0, 0, 0, 0, 0, 0] _ lw_tbl (by decide +kernel)
set_option maxRecDepth 1000000 in
theorem gs_fl_ok_1 : ∀ w ∈ ([(5, 230, 2, 11), (2, 48, 2, 12), (5, 233, 2, 12), (2, 51, 2, 13), (5, 239, 2, 13), (2, 54, 2, 14), (1, 62, 2, 14), (5, 236, 2, 14), (2, 57, 2, 15), (1, 42, 2, 15), (5, 211, 2, 15), (8, 170, 0, 0), (11, 225, 0, 0), (5, 249, 0, 0), (0, 66, 0, 1), (8, 173, 0, 1), (11, 228, 0, 1), (5, 252, 0, 1), (0, 43, 0, 2), (11, 208, 0, 2), (5, 255, 0, 2), (0, 37, 0, 3), (11, 197, 0, 3), (5, 258, 0, 3), (0, 15, 0, 4), (11, 205, 0, 4), (5, 261, 0, 4), (0, 21, 0, 5), (11, 202, 0, 5), (5, 264, 0, 5), (0, 57, 0, 6), (5, 267, 0, 6), (0, 63, 0, 7), (5, 270, 0, 7), (0, 60, 0, 8), (5, 273, 0, 8), (0, 28, 0, 9), (11, 215, 0, 9), (0, 34, 0, 10), (11, 218, 0, 10), (8, 14, 7, 0), (11, 86, 7, 0), (5, 144, 7, 0), (8, 20, 7, 1), (11, 95, 7, 1), (5, 163, 7, 1), (8, 23, 7, 2), (11, 101, 7, 2), (5, 166, 7, 2), (8, 26, 7, 3), (11, 98, 7, 3), (5, 276, 7, 3), (8, 32, 7, 4), (5, 302, 7, 4), (11, 369, 7, 4), (8, 39, 7, 5), (1, 80, 7, 5), (5, 172, 7, 5), (11, 300, 7, 5), (8, 45, 7, 6)] : List _).map gs_fw, gs_gw w := gs_sk_ok [297, 0, 0, 0, 0, 0, 0, 0, 0, 0, 0, 38, 0, 0, 0, 0, 0, 0, 0, 0, 0, 0, 0, 0, 0, 0, 0, 0, 0, 0, 0, 0, 0, 0, 0, 0, 0, 0, 0, 0, 23, 0, 0, 0, 0, 0, 0, 0, 0, 0, 0, 0, 0, 0, 0, 0, 0, 0, 0, 0] _ lw_tbl (by decide +kernel)
set_option maxRecDepth 1000000 in
theorem gs_fl_ok_2 : ∀ w ∈ ([(4, 56, 7, 6), (1, 21, 7, 6), (11, 120, 7, 6), (5, 183, 7, 6), (8, 51, 7, 7), (4, 60, 7, 7), (5, 61, 7, 7), (11, 193, 7, 7), (4, 42, 7, 8), (1, 15, 7, 8), (8, 69, 7, 8), (11, 68, 7, 8), (5, 180, 7, 8), (4, 49, 7, 9), (8, 72, 7, 9), (5, 58, 7, 9), (11, 311, 7, 9), (8, 75, 7, 10), (5, 128, 7, 10), (11, 376, 7, 10), (8, 57, 7, 11), (5, 131, 7, 11), (11, 379, 7, 11), (8, 61, 7, 12), (4, 68, 7, 12), (5, 134, 7, 12), (11, 382, 7, 12), (8, 78, 7, 13), (5, 65, 7, 13), (11, 314, 7, 13), (9, 9, 8, 0), (9, 15, 8, 1), (9, 44, 8, 2), (9, 46, 8, 3), (9, 31, 8, 4), (11, 48, 8, 4), (5, 49, 8, 5), (9, 55, 8, 5), (5, 73, 8, 6), (9, 52, 8, 6), (9, 71, 8, 7), (5, 89, 8, 7), (5, 9, 5, 0), (5, 18, 5, 1), (5, 279, 5, 2), (5, 282, 5, 3), (5, 39, 5, 4), (5, 285, 5, 5), (5, 289, 5, 6), (5, 42, 5, 7), (5, 25, 5, 8), (11, 44, 5, 8), (5, 29, 5, 9), (11, 80, 5, 9), (5, 33, 5, 10), (11, 83, 5, 10), (4, 11, 4, 0), (4, 17, 4, 1), (4, 21, 4, 2), (4, 24, 4, 3)] : List _).map gs_fw, gs_gw w := gs_sk_ok [418, 0, 0, 0, 0, 0, 0, 0, 0, 0, 0, 0, 0, 0, 0, 0, 0, 0, 0, 0, 0, 0, 0, 0, 0, 0, 0, 0, 0, 0, 84, 0, 0, 0, 0, 0, 0, 0, 0, 0, 0, 0, 18, 0, 0, 0, 0, 0, 0, 0, 0, 0, 0, 0, 0, 0, 29, 0, 0, 0] _ lw_tbl (by decide +kernel)
set_option maxRecDepth 1000000 in
theorem gs_fl_ok_3 : ∀ w ∈ ([(4, 27, 4, 4), (4, 30, 4, 5), (4, 33, 4, 6), (4, 48, 4, 7), (4, 52, 4, 8), (4, 53, 4, 9), (4, 120, 4, 10), (4, 36, 4, 11), (11, 247, 4, 11), (4, 39, 4, 12), (11, 397, 4, 12), (4, 114, 4, 13), (11, 241, 4, 13), (4, 117, 4, 14), (11, 244, 4, 14), (1, 9, 1, 0), (11, 258, 1, 0), (11, 10, 10, 0), (11, 19, 10, 1), (11, 26, 10, 2), (11, 33, 10, 3), (11, 71, 10, 5), (11, 74, 10, 6), (11, 37, 10, 7), (11, 41, 10, 8), (11, 352, 10, 4), (12, 7, 11, 0), (12, 132, 11, 1), (12, 129, 11, 2), (12, 13, 11, 3), (12, 135, 11, 4), (12, 16, 11, 5), (12, 141, 11, 6), (12, 144, 11, 7), (12, 147, 11, 8), (12, 158, 11, 9), (12, 138, 11, 10), (12, 177, 11, 11), (12, 20, 11, 12), (12, 23, 11, 13), (12, 26, 11, 14), (12, 29, 11, 15), (12, 32, 11, 16), (12, 183, 11, 17), (12, 35, 11, 18), (12, 38, 11, 19), (12, 41, 11, 20), (12, 44, 11, 21), (12, 47, 11, 22), (12, 50, 11, 23), (12, 53, 11, 24), (12, 56, 11, 25), (12, 59, 11, 26), (12, 62, 11, 27), (12, 65, 11, 28), (12, 68, 11, 29), (12, 71, 11, 30), (12, 74, 11, 31), (12, 77, 11, 32), (12, 80, 11, 33)] : List _).map gs_fw, gs_gw w := gs_sk_ok [609, 0, 0, 0, 0, 0, 0, 0, 0, 0, 0, 0, 0, 0, 0, 37, 0, 5, 0, 0, 0, 0, 0, 0, 0, 0, 865, 0, 0, 0, 0, 0, 0, 0, 0, 0, 0, 0, 0, 0, 0, 0, 0, 0, 0, 0, 0, 0, 0, 0, 0, 0, 0, 0, 0, 0, 0, 0, 0, 0] _ lw_tbl (by decide +kernel)
set_option maxRecDepth 1000000 in
theorem gs_fl_ok_4 : ∀ w ∈ ([(12, 83, 11, 34), (12, 86, 11, 35), (12, 193, 11, 36), (12, 89, 11, 37), (12, 92, 11, 38), (12, 95, 11, 39), (12, 278, 11, 40), (12, 275, 11, 41), (12, 292, 11, 42), (12, 186, 11, 43), (12, 305, 11, 44), (12, 298, 11, 45), (12, 98, 11, 46), (12, 102, 11, 47), (12, 317, 11, 48), (12, 421, 11, 49), (12, 424, 11, 50), (12, 441, 11, 51), (12, 105, 11, 52), (12, 108, 11, 53), (12, 438, 11, 54), (12, 111, 11, 55), (12, 114, 11, 56), (12, 117, 11, 57), (12, 120, 11, 58), (12, 509, 11, 59)] : List _).map gs_fw, gs_gw w := gs_sk_ok [1576, 0, 0, 0, 0, 0, 0, 0, 0, 0, 0, 0, 0, 0, 0, 0, 0, 0, 0, 0, 0, 0, 0, 0, 0, 0] _ lw_tbl (by decide +kernel)
set_option maxRecDepth 100000 in
theorem gs_fl_ok {x} (h : x ∈ gs_fl) : gs_gw (gs_fw x) := by
  have h2 : x ∈ (([(3, 9, 3, 0), (3, 15, 3, 1), (8, 116, 3, 1), (5, 193, 3, 1), (3, 18, 3, 2), (8, 123, 3, 2), (5, 196, 3, 2), (3, 21, 3, 3), (8, 64, 3, 3), (5, 148, 3, 3), (11, 180, 3, 3), (6, 9, 6, 0), (6, 15, 6, 1), (6, 18, 6, 2), (6, 22, 6, 3), (8, 67, 6, 3), (5, 306, 6, 3), (11, 373, 6, 3), (6, 26, 6, 4), (8, 148, 6, 4), (10, 9, 9, 0), (10, 15, 9, 1), (10, 18, 9, 2), (10, 21, 9, 3), (8, 68, 9, 3), (5, 176, 9, 3), (11, 368, 9, 3), (2, 9, 2, 0), (8, 120, 2, 0), (5, 190, 2, 0), (2, 15, 2, 1), (8, 103, 2, 1), (1, 77, 2, 1), (0, 74, 2, 1), (5, 199, 2, 1), (2, 18, 2, 2), (0, 69, 2, 2), (5, 202, 2, 2), (2, 21, 2, 3), (8, 106, 2, 3), (11, 167, 2, 3), (5, 205, 2, 3), (2, 24, 2, 4), (8, 109, 2, 4), (5, 208, 2, 4), (2, 27, 2, 5), (8, 126, 2, 5), (5, 214, 2, 5), (11, 343, 2, 5), (2, 30, 2, 6), (8, 132, 2, 6), (5, 217, 2, 6), (2, 33, 2, 7), (2, 36, 2, 8), (8, 129, 2, 8), (2, 39, 2, 9), (8, 135, 2, 9), (2, 42, 2, 10), (5, 227, 2, 10), (2, 45, 2, 11)] : List _) ++ (([(5, 230, 2, 11), (2, 48, 2, 12), (5, 233, 2, 12), (2, 51, 2, 13), (5, 239, 2, 13), (2, 54, 2, 14), (1, 62, 2, 14), (5, 236, 2, 14), (2, 57, 2, 15), (1, 42, 2, 15), (5, 211, 2, 15), (8, 170, 0, 0), (11, 225, 0, 0), (5, 249, 0, 0), (0, 66, 0, 1), (8, 173, 0, 1), (11, 228, 0, 1), (5, 252, 0, 1), (0, 43, 0, 2), (11, 208, 0, 2), (5, 255, 0, 2), (0, 37, 0, 3), (11, 197, 0, 3), (5, 258, 0, 3), (0, 15, 0, 4), (11, 205, 0, 4), (5, 261, 0, 4), (0, 21, 0, 5), (11, 202, 0, 5), (5, 264, 0, 5), (0, 57, 0, 6), (5, 267, 0, 6), (0, 63, 0, 7), (5, 270, 0, 7), (0, 60, 0, 8), (5, 273, 0, 8), (0, 28, 0, 9), (11, 215, 0, 9), (0, 34, 0, 10), (11, 218, 0, 10), (8, 14, 7, 0), (11, 86, 7, 0), (5, 144, 7, 0), (8, 20, 7, 1), (11, 95, 7, 1), (5, 163, 7, 1), (8, 23, 7, 2), (11, 101, 7, 2), (5, 166, 7, 2), (8, 26, 7, 3), (11, 98, 7, 3), (5, 276, 7, 3), (8, 32, 7, 4), (5, 302, 7, 4), (11, 369, 7, 4), (8, 39, 7, 5), (1, 80, 7, 5), (5, 172, 7, 5), (11, 300, 7, 5), (8, 45, 7, 6)] : List _) ++ (([(4, 56, 7, 6), (1, 21, 7, 6), (11, 120, 7, 6), (5, 183, 7, 6), (8, 51, 7, 7), (4, 60, 7, 7), (5, 61, 7, 7), (11, 193, 7, 7), (4, 42, 7, 8), (1, 15, 7, 8), (8, 69, 7, 8), (11, 68, 7, 8), (5, 180, 7, 8), (4, 49, 7, 9), (8, 72, 7, 9), (5, 58, 7, 9), (11, 311, 7, 9), (8, 75, 7, 10), (5, 128, 7, 10), (11, 376, 7, 10), (8, 57, 7, 11), (5, 131, 7, 11), (11, 379, 7, 11), (8, 61, 7, 12), (4, 68, 7, 12), (5, 134, 7, 12), (11, 382, 7, 12), (8, 78, 7, 13), (5, 65, 7, 13), (11, 314, 7, 13), (9, 9, 8, 0), (9, 15, 8, 1), (9, 44, 8, 2), (9, 46, 8, 3), (9, 31, 8, 4), (11, 48, 8, 4), (5, 49, 8, 5), (9, 55, 8, 5), (5, 73, 8, 6), (9, 52, 8, 6), (9, 71, 8, 7), (5, 89, 8, 7), (5, 9, 5, 0), (5, 18, 5, 1), (5, 279, 5, 2), (5, 282, 5, 3), (5, 39, 5, 4), (5, 285, 5, 5), (5, 289, 5, 6), (5, 42, 5, 7), (5, 25, 5, 8), (11, 44, 5, 8), (5, 29, 5, 9), (11, 80, 5, 9), (5, 33, 5, 10), (11, 83, 5, 10), (4, 11, 4, 0), (4, 17, 4, 1), (4, 21, 4, 2), (4, 24, 4, 3)] : List _) ++ (([(4, 27, 4, 4), (4, 30, 4, 5), (4, 33, 4, 6), (4, 48, 4, 7), (4, 52, 4, 8), (4, 53, 4, 9), (4, 120, 4, 10), (4, 36, 4, 11), (11, 247, 4, 11), (4, 39, 4, 12), (11, 397, 4, 12), (4, 114, 4, 13), (11, 241, 4, 13), (4, 117, 4, 14), (11, 244, 4, 14), (1, 9, 1, 0), (11, 258, 1, 0), (11, 10, 10, 0), (11, 19, 10, 1), (11, 26, 10, 2), (11, 33, 10, 3), (11, 71, 10, 5), (11, 74, 10, 6), (11, 37, 10, 7), (11, 41, 10, 8), (11, 352, 10, 4), (12, 7, 11, 0), (12, 132, 11, 1), (12, 129, 11, 2), (12, 13, 11, 3), (12, 135, 11, 4), (12, 16, 11, 5), (12, 141, 11, 6), (12, 144, 11, 7), (12, 147, 11, 8), (12, 158, 11, 9), (12, 138, 11, 10), (12, 177, 11, 11), (12, 20, 11, 12), (12, 23, 11, 13), (12, 26, 11, 14), (12, 29, 11, 15), (12, 32, 11, 16), (12, 183, 11, 17), (12, 35, 11, 18), (12, 38, 11, 19), (12, 41, 11, 20), (12, 44, 11, 21), (12, 47, 11, 22), (12, 50, 11, 23), (12, 53, 11, 24), (12, 56, 11, 25), (12, 59, 11, 26), (12, 62, 11, 27), (12, 65, 11, 28), (12, 68, 11, 29), (12, 71, 11, 30), (12, 74, 11, 31), (12, 77, 11, 32), (12, 80, 11, 33)] : List _) ++ (([(12, 83, 11, 34), (12, 86, 11, 35), (12, 193, 11, 36), (12, 89, 11, 37), (12, 92, 11, 38), (12, 95, 11, 39), (12, 278, 11, 40), (12, 275, 11, 41), (12, 292, 11, 42), (12, 186, 11, 43), (12, 305, 11, 44), (12, 298, 11, 45), (12, 98, 11, 46), (12, 102, 11, 47), (12, 317, 11, 48), (12, 421, 11, 49), (12, 424, 11, 50), (12, 441, 11, 51), (12, 105, 11, 52), (12, 108, 11, 53), (12, 438, 11, 54), (12, 111, 11, 55), (12, 114, 11, 56), (12, 117, 11, 57), (12, 120, 11, 58), (12, 509, 11, 59)] : List _)))))) := h
  try simp only [List.mem_append] at h2
  rcases h2 with h2 | h2 | h2 | h2 | h2
  · exact gs_fl_ok_0 _ (List.mem_map.mpr ⟨x, h2, rfl⟩)
  · exact gs_fl_ok_1 _ (List.mem_map.mpr ⟨x, h2, rfl⟩)
  · exact gs_fl_ok_2 _ (List.mem_map.mpr ⟨x, h2, rfl⟩)
  · exact gs_fl_ok_3 _ (List.mem_map.mpr ⟨x, h2, rfl⟩)
  · exact gs_fl_ok_4 _ (List.mem_map.mpr ⟨x, h2, rfl⟩)
set_option maxRecDepth 1000000 in
theorem gs_c32_ok_0 : ∀ w ∈ ([(0, 51, 2147483647), (0, 56, (-2147483648)), (11, 385, 708000), (14, 265, 1431655765), (14, 266, 858993459), (14, 267, 252645135), (11, 192, (-2147483648)), (1, 49, 2147483647), (11, 394, 1103515245), (11, 395, 2147483647), (11, 396, 65536), (12, 367, 708000), (12, 434, (-2147483648)), (12, 459, 100000), (12, 463, 1000000)] : List _).map gs_cw, gs_gw w := gs_sk_ok [958, 13, 24, 118, 0, 0, 32, 155, 144, 0, 0, 509, 74, 59, 0] _ lw_tbl (by decide +kernel)
set_option maxRecDepth 100000 in
theorem gs_c32_ok {x} (h : x ∈ gs_c32) : gs_gw (gs_cw x) := by
  have h2 : x ∈ (([(0, 51, 2147483647), (0, 56, (-2147483648)), (11, 385, 708000), (14, 265, 1431655765), (14, 266, 858993459), (14, 267, 252645135), (11, 192, (-2147483648)), (1, 49, 2147483647), (11, 394, 1103515245), (11, 395, 2147483647), (11, 396, 65536), (12, 367, 708000), (12, 434, (-2147483648)), (12, 459, 100000), (12, 463, 1000000)] : List _)) := h
  try simp only [List.mem_append] at h2
  exact gs_c32_ok_0 _ (List.mem_map.mpr ⟨x, h2, rfl⟩)
set_option maxRecDepth 1000000 in
theorem gs_c64_ok_0 : ∀ w ∈ ([(6, 61, 1000000000000), (6, 63, (-1000000000000)), (11, 178, (-1)), (8, 156, 9999), (4, 96, 9223372036854775807), (4, 90, 10), (4, 98, 3138428376721), (4, 100, 31384283767210000), (1, 65, 10), (11, 309, 120), (11, 330, 10), (11, 338, 7200), (12, 320, 1000000000000), (12, 322, (-1000000000000)), (12, 355, (-1)), (12, 350, 9999), (12, 485, 10), (12, 502, 120), (12, 507, 7200), (12, 513, 1103515245), (12, 515, 12345), (12, 517, 2147483647), (12, 519, 65536)] : List _).map gs_cwJ, gs_gw w := gs_sk_ok [1091, 0, 35, 4, 90, 10, 4, 0, 89, 38, 34, 11, 506, 0, 11, 4, 218, 34, 12, 28, 0, 0, 0] _ lw_tbl (by decide +kernel)
set_option maxRecDepth 100000 in
theorem gs_c64_ok {x} (h : x ∈ gs_c64) : gs_gw (gs_cwJ x) := by
  have h2 : x ∈ (([(6, 61, 1000000000000), (6, 63, (-1000000000000)), (11, 178, (-1)), (8, 156, 9999), (4, 96, 9223372036854775807), (4, 90, 10), (4, 98, 3138428376721), (4, 100, 31384283767210000), (1, 65, 10), (11, 309, 120), (11, 330, 10), (11, 338, 7200), (12, 320, 1000000000000), (12, 322, (-1000000000000)), (12, 355, (-1)), (12, 350, 9999), (12, 485, 10), (12, 502, 120), (12, 507, 7200), (12, 513, 1103515245), (12, 515, 12345), (12, 517, 2147483647), (12, 519, 65536)] : List _)) := h
  try simp only [List.mem_append] at h2
  exact gs_c64_ok_0 _ (List.mem_map.mpr ⟨x, h2, rfl⟩)
set_option maxRecDepth 1000000 in
theorem gs_ml_ok_0 : ∀ w ∈ ([(13, 17, 116), (5, 17, 86), (8, 11, 25), (5, 24, 105), (11, 32, 86), (13, 21, 117), (11, 54, 106), (13, 26, 118), (11, 58, 42), (5, 36, 87), (5, 45, 107), (9, 35, 314), (9, 41, 312), (9, 49, 108), (9, 58, 109), (9, 61, 110), (9, 64, 112), (9, 68, 111), (5, 52, 49), (5, 98, 52), (5, 151, 48), (5, 83, 43), (5, 86, 108), (5, 155, 46), (5, 92, 27), (5, 140, 45), (5, 159, 26), (5, 101, 53), (5, 104, 54), (5, 169, 47), (5, 107, 56), (5, 187, 18), (5, 110, 58), (5, 137, 51), (5, 220, 59), (5, 242, 60), (5, 246, 61), (5, 224, 23), (5, 113, 57), (5, 116, 62), (5, 55, 44), (5, 119, 63), (5, 292, 64), (5, 309, 67), (5, 312, 66), (5, 315, 69), (5, 318, 72), (5, 295, 65), (5, 299, 68), (5, 328, 70), (5, 320, 312), (5, 122, 55), (5, 179, 114), (5, 125, 50), (5, 68, 2), (0, 24, 4), (0, 52, 3), (0, 40, 312), (0, 46, 1), (0, 9, 314)] : List _).map gs_mw, gs_gw w := gs_sk_ok [161, 13, 5, 297, 187, 28, 3, 3, 4, 3, 3, 3, 2, 2, 3, 3, 3, 2, 3, 3, 3, 3, 70, 0, 3, 3, 3, 3, 3, 3, 3, 3, 3, 3, 3, 3, 2, 2, 3, 3, 3, 3, 3, 3, 3, 3, 2, 3, 3, 3, 2, 3, 3, 3, 3, 3, 4, 3, 0, 2] _ lw_tbl (by decide +kernel)
set_option maxRecDepth 1000000 in
theorem gs_ml_ok_1 : ∀ w ∈ ([(0, 31, 5), (11, 64, 320), (11, 77, 166), (13, 31, 119), (13, 35, 120), (11, 90, 27), (13, 49, 122), (11, 129, 161), (11, 132, 88), (13, 53, 123), (11, 104, 157), (11, 135, 90), (8, 99, 19), (8, 112, 89), (8, 81, 79), (8, 87, 88), (8, 91, 309), (8, 96, 80), (13, 57, 124), (11, 139, 91), (13, 61, 125), (11, 142, 92), (13, 65, 126), (11, 146, 164), (11, 149, 93), (11, 152, 94), (8, 138, 314), (8, 141, 312), (13, 70, 127), (11, 155, 95), (8, 144, 96), (8, 152, 73), (6, 30, 312), (6, 36, 74), (6, 40, 75), (6, 50, 76), (6, 54, 77), (6, 65, 311), (6, 58, 78), (6, 44, 22), (13, 74, 128), (11, 158, 19), (11, 162, 308), (11, 170, 80), (13, 78, 129), (11, 175, 159), (11, 181, 97), (8, 158, 315), (8, 161, 313), (11, 185, 85), (13, 83, 130), (11, 189, 158), (11, 211, 1), (11, 221, 6), (13, 87, 131), (11, 231, 100), (8, 193, 99), (8, 185, 24), (8, 189, 98), (8, 163, 93)] : List _).map gs_mw, gs_gw w := gs_sk_ok [968, 4, 3, 3, 3, 3, 0, 3, 3, 3, 3, 3, 3, 3, 3, 2, 0, 2, 2, 3, 3, 3, 3, 3, 2, 3, 3, 0, 0, 3, 3, 3, 3, 0, 0, 3, 5, 3, 2, 3, 3, 3, 0, 5, 0, 3, 4, 4, 2, 2, 2, 3, 4, 0, 3, 3, 3, 3, 3, 3] _ lw_tbl (by decide +kernel)
set_option maxRecDepth 1000000 in
theorem gs_ml_ok_2 : ∀ w ∈ ([(8, 167, 94), (8, 176, 81), (7, 9, 310), (7, 15, 314), (7, 19, 312), (8, 180, 308), (8, 197, 9), (13, 91, 132), (11, 235, 99), (13, 95, 133), (11, 238, 168), (11, 386, 167), (11, 389, 29), (4, 64, 100), (4, 71, 316), (4, 77, 317), (4, 80, 32), (4, 102, 33), (4, 110, 31), (4, 92, 30), (4, 106, 34), (4, 84, 35), (13, 99, 134), (13, 103, 135), (11, 251, 103), (8, 201, 90), (8, 204, 310), (13, 107, 136), (13, 112, 137), (11, 255, 169), (11, 393, 11), (1, 25, 103), (1, 29, 12), (1, 33, 314), (1, 39, 312), (13, 116, 138), (11, 261, 21), (2, 60, 20), (13, 120, 139), (11, 264, 14), (1, 50, 104), (1, 54, 21), (13, 124, 140), (11, 268, 160), (11, 271, 104), (13, 128, 141), (11, 275, 15), (1, 58, 14), (1, 67, 85), (13, 133, 142), (11, 279, 37), (11, 282, 36), (11, 285, 38), (13, 137, 143), (11, 288, 312), (11, 294, 314), (11, 297, 84), (7, 31, 79), (7, 34, 83), (7, 22, 82)] : List _).map gs_mw, gs_gw w := gs_sk_ok [1178, 0, 2, 2, 0, 0, 0, 3, 3, 0, 3, 3, 3, 3, 0, 2, 2, 4, 3, 6, 5, 3, 3, 3, 3, 3, 0, 0, 3, 3, 3, 3, 0, 3, 0, 0, 3, 3, 3, 3, 4, 3, 0, 3, 3, 0, 3, 3, 1, 0, 3, 3, 3, 3, 3, 0, 0, 2, 0, 2] _ lw_tbl (by decide +kernel)
set_option maxRecDepth 1000000 in
theorem gs_ml_ok_3 : ∀ w ∈ ([(7, 27, 81), (11, 304, 115), (13, 141, 144), (11, 317, 7), (13, 145, 145), (11, 320, 13), (13, 149, 146), (11, 323, 162), (13, 153, 147), (11, 326, 16), (1, 73, 19), (1, 84, 115), (1, 90, 95), (13, 158, 148), (11, 332, 163), (11, 335, 8), (13, 162, 149), (11, 340, 82), (13, 166, 150), (11, 346, 83), (13, 170, 151), (13, 174, 152), (11, 349, 165), (13, 179, 153), (13, 183, 154), (11, 355, 170), (11, 358, 102), (13, 187, 155), (11, 362, 171), (11, 400, 101), (11, 365, 39), (4, 123, 40), (13, 191, 156), (13, 39, 318), (13, 7, 121), (11, 124, 20), (13, 20, 172), (12, 123, 188), (12, 126, 190), (12, 189, 189), (13, 45, 173), (13, 25, 174), (13, 30, 210), (12, 180, 182), (12, 150, 180), (12, 154, 179), (12, 161, 184), (12, 164, 181), (12, 167, 183), (12, 272, 209), (12, 170, 178), (12, 225, 176), (12, 244, 194), (12, 200, 192), (12, 196, 191), (12, 204, 187), (12, 173, 175), (12, 247, 195), (12, 250, 196), (12, 208, 185)] : List _).map gs_mw, gs_gw w := gs_sk_ok [1365, 0, 4, 3, 3, 3, 3, 3, 2, 3, 3, 0, 0, 1, 3, 2, 4, 3, 0, 3, 0, 3, 3, 3, 3, 3, 6, 3, 3, 3, 3, 3, 3, 3, 4, 35, 2, 3, 3, 3, 183, 3, 3, 3, 3, 3, 3, 3, 3, 3, 3, 3, 2, 3, 3, 3, 3, 2, 3, 3] _ lw_tbl (by decide +kernel)
set_option maxRecDepth 1000000 in
theorem gs_ml_ok_4 : ∀ w ∈ ([(12, 211, 193), (12, 253, 199), (12, 214, 197), (12, 218, 198), (12, 222, 200), (12, 228, 201), (12, 231, 204), (12, 234, 202), (12, 237, 203), (12, 257, 205), (12, 260, 206), (12, 241, 221), (12, 269, 186), (12, 311, 219), (12, 295, 218), (12, 302, 217), (12, 288, 214), (12, 314, 220), (12, 308, 216), (12, 281, 213), (12, 285, 215), (12, 263, 207), (12, 266, 208), (13, 34, 211), (13, 38, 212), (13, 73, 230), (12, 344, 228), (12, 347, 227), (12, 340, 226), (12, 336, 225), (12, 324, 222), (12, 328, 224), (12, 332, 223), (13, 82, 234), (12, 357, 231), (12, 360, 233), (12, 352, 232), (13, 44, 236), (12, 364, 235), (13, 52, 240), (12, 368, 239), (12, 371, 238), (13, 56, 244), (12, 384, 243), (12, 377, 237), (12, 380, 242), (12, 374, 241), (13, 60, 246), (12, 387, 245), (13, 64, 248), (12, 390, 247), (13, 77, 250), (12, 393, 249), (13, 69, 255), (12, 399, 251), (12, 402, 253), (12, 396, 252), (12, 405, 254), (13, 86, 262), (12, 431, 229)] : List _).map gs_mw, gs_gw w := gs_sk_ok [1801, 3, 3, 3, 3, 3, 3, 3, 3, 3, 3, 3, 3, 3, 3, 3, 3, 3, 3, 3, 2, 3, 3, 3, 3, 3, 3, 3, 3, 3, 3, 5, 3, 2, 4, 4, 2, 2, 3, 3, 3, 3, 3, 3, 3, 3, 3, 2, 3, 3, 3, 3, 3, 2, 3, 3, 3, 3, 3, 3] _ lw_tbl (by decide +kernel)
set_option maxRecDepth 1000000 in
theorem gs_ml_ok_5 : ∀ w ∈ ([(12, 435, 261), (12, 427, 260), (12, 414, 259), (12, 417, 258), (13, 90, 265), (12, 450, 264), (12, 447, 263), (12, 444, 257), (12, 411, 256), (12, 408, 177), (13, 94, 266), (13, 98, 272), (12, 464, 270), (12, 460, 269), (12, 456, 268), (12, 453, 267), (12, 467, 271), (13, 102, 273), (13, 106, 275), (12, 470, 274), (13, 111, 276), (13, 115, 278), (12, 473, 277), (13, 148, 279), (13, 119, 281), (12, 476, 280), (13, 127, 283), (12, 479, 282), (13, 123, 285), (12, 482, 284), (13, 132, 286), (13, 136, 289), (12, 487, 287), (12, 490, 288), (13, 152, 291), (12, 493, 290), (13, 157, 292), (13, 140, 295), (12, 499, 294), (12, 496, 293), (13, 144, 296), (13, 161, 298), (12, 504, 297), (13, 165, 299), (13, 169, 300), (13, 173, 301), (13, 178, 302), (13, 182, 303), (13, 186, 305), (12, 521, 304), (13, 190, 306), (13, 194, 307)] : List _).map gs_mw, gs_gw w := gs_sk_ok [2040, 3, 3, 2, 2, 3, 3, 3, 2, 2, 2, 3, 3, 3, 3, 3, 5, 3, 3, 3, 3, 3, 3, 3, 3, 3, 3, 3, 3, 3, 3, 4, 3, 3, 3, 3, 3, 3, 3, 2, 3, 3, 3, 4, 3, 3, 3, 3, 3, 3, 7, 3] _ lw_tbl (by decide +kernel)
set_option maxRecDepth 100000 in
theorem gs_ml_ok {x} (h : x ∈ gs_ml) : gs_gw (gs_mw x) := by
  have h2 : x ∈ (([(13, 17, 116), (5, 17, 86), (8, 11, 25), (5, 24, 105), (11, 32, 86), (13, 21, 117), (11, 54, 106), (13, 26, 118), (11, 58, 42), (5, 36, 87), (5, 45, 107), (9, 35, 314), (9, 41, 312), (9, 49, 108), (9, 58, 109), (9, 61, 110), (9, 64, 112), (9, 68, 111), (5, 52, 49), (5, 98, 52), (5, 151, 48), (5, 83, 43), (5, 86, 108), (5, 155, 46), (5, 92, 27), (5, 140, 45), (5, 159, 26), (5, 101, 53), (5, 104, 54), (5, 169, 47), (5, 107, 56), (5, 187, 18), (5, 110, 58), (5, 137, 51), (5, 220, 59), (5, 242, 60), (5, 246, 61), (5, 224, 23), (5, 113, 57), (5, 116, 62), (5, 55, 44), (5, 119, 63), (5, 292, 64), (5, 309, 67), (5, 312, 66), (5, 315, 69), (5, 318, 72), (5, 295, 65), (5, 299, 68), (5, 328, 70), (5, 320, 312), (5, 122, 55), (5, 179, 114), (5, 125, 50), (5, 68, 2), (0, 24, 4), (0, 52, 3), (0, 40, 312), (0, 46, 1), (0, 9, 314)] : List _) ++ (([(0, 31, 5), (11, 64, 320), (11, 77, 166), (13, 31, 119), (13, 35, 120), (11, 90, 27), (13, 49, 122), (11, 129, 161), (11, 132, 88), (13, 53, 123), (11, 104, 157), (11, 135, 90), (8, 99, 19), (8, 112, 89), (8, 81, 79), (8, 87, 88), (8, 91, 309), (8, 96, 80), (13, 57, 124), (11, 139, 91), (13, 61, 125), (11, 142, 92), (13, 65, 126), (11, 146, 164), (11, 149, 93), (11, 152, 94), (8, 138, 314), (8, 141, 312), (13, 70, 127), (11, 155, 95), (8, 144, 96), (8, 152, 73), (6, 30, 312), (6, 36, 74), (6, 40, 75), (6, 50, 76), (6, 54, 77), (6, 65, 311), (6, 58, 78), (6, 44, 22), (13, 74, 128), (11, 158, 19), (11, 162, 308), (11, 170, 80), (13, 78, 129), (11, 175, 159), (11, 181, 97), (8, 158, 315), (8, 161, 313), (11, 185, 85), (13, 83, 130), (11, 189, 158), (11, 211, 1), (11, 221, 6), (13, 87, 131), (11, 231, 100), (8, 193, 99), (8, 185, 24), (8, 189, 98), (8, 163, 93)] : List _) ++ (([(8, 167, 94), (8, 176, 81), (7, 9, 310), (7, 15, 314), (7, 19, 312), (8, 180, 308), (8, 197, 9), (13, 91, 132), (11, 235, 99), (13, 95, 133), (11, 238, 168), (11, 386, 167), (11, 389, 29), (4, 64, 100), (4, 71, 316), (4, 77, 317), (4, 80, 32), (4, 102, 33), (4, 110, 31), (4, 92, 30), (4, 106, 34), (4, 84, 35), (13, 99, 134), (13, 103, 135), (11, 251, 103), (8, 201, 90), (8, 204, 310), (13, 107, 136), (13, 112, 137), (11, 255, 169), (11, 393, 11), (1, 25, 103), (1, 29, 12), (1, 33, 314), (1, 39, 312), (13, 116, 138), (11, 261, 21), (2, 60, 20), (13, 120, 139), (11, 264, 14), (1, 50, 104), (1, 54, 21), (13, 124, 140), (11, 268, 160), (11, 271, 104), (13, 128, 141), (11, 275, 15), (1, 58, 14), (1, 67, 85), (13, 133, 142), (11, 279, 37), (11, 282, 36), (11, 285, 38), (13, 137, 143), (11, 288, 312), (11, 294, 314), (11, 297, 84), (7, 31, 79), (7, 34, 83), (7, 22, 82)] : List _) ++ (([(7, 27, 81), (11, 304, 115), (13, 141, 144), (11, 317, 7), (13, 145, 145), (11, 320, 13), (13, 149, 146), (11, 323, 162), (13, 153, 147), (11, 326, 16), (1, 73, 19), (1, 84, 115), (1, 90, 95), (13, 158, 148), (11, 332, 163), (11, 335, 8), (13, 162, 149), (11, 340, 82), (13, 166, 150), (11, 346, 83), (13, 170, 151), (13, 174, 152), (11, 349, 165), (13, 179, 153), (13, 183, 154), (11, 355, 170), (11, 358, 102), (13, 187, 155), (11, 362, 171), (11, 400, 101), (11, 365, 39), (4, 123, 40), (13, 191, 156), (13, 39, 318), (13, 7, 121), (11, 124, 20), (13, 20, 172), (12, 123, 188), (12, 126, 190), (12, 189, 189), (13, 45, 173), (13, 25, 174), (13, 30, 210), (12, 180, 182), (12, 150, 180), (12, 154, 179), (12, 161, 184), (12, 164, 181), (12, 167, 183), (12, 272, 209), (12, 170, 178), (12, 225, 176), (12, 244, 194), (12, 200, 192), (12, 196, 191), (12, 204, 187), (12, 173, 175), (12, 247, 195), (12, 250, 196), (12, 208, 185)] : List _) ++ (([(12, 211, 193), (12, 253, 199), (12, 214, 197), (12, 218, 198), (12, 222, 200), (12, 228, 201), (12, 231, 204), (12, 234, 202), (12, 237, 203), (12, 257, 205), (12, 260, 206), (12, 241, 221), (12, 269, 186), (12, 311, 219), (12, 295, 218), (12, 302, 217), (12, 288, 214), (12, 314, 220), (12, 308, 216), (12, 281, 213), (12, 285, 215), (12, 263, 207), (12, 266, 208), (13, 34, 211), (13, 38, 212), (13, 73, 230), (12, 344, 228), (12, 347, 227), (12, 340, 226), (12, 336, 225), (12, 324, 222), (12, 328, 224), (12, 332, 223), (13, 82, 234), (12, 357, 231), (12, 360, 233), (12, 352, 232), (13, 44, 236), (12, 364, 235), (13, 52, 240), (12, 368, 239), (12, 371, 238), (13, 56, 244), (12, 384, 243), (12, 377, 237), (12, 380, 242), (12, 374, 241), (13, 60, 246), (12, 387, 245), (13, 64, 248), (12, 390, 247), (13, 77, 250), (12, 393, 249), (13, 69, 255), (12, 399, 251), (12, 402, 253), (12, 396, 252), (12, 405, 254), (13, 86, 262), (12, 431, 229)] : List _) ++ (([(12, 435, 261), (12, 427, 260), (12, 414, 259), (12, 417, 258), (13, 90, 265), (12, 450, 264), (12, 447, 263), (12, 444, 257), (12, 411, 256), (12, 408, 177), (13, 94, 266), (13, 98, 272), (12, 464, 270), (12, 460, 269), (12, 456, 268), (12, 453, 267), (12, 467, 271), (13, 102, 273), (13, 106, 275), (12, 470, 274), (13, 111, 276), (13, 115, 278), (12, 473, 277), (13, 148, 279), (13, 119, 281), (12, 476, 280), (13, 127, 283), (12, 479, 282), (13, 123, 285), (12, 482, 284), (13, 132, 286), (13, 136, 289), (12, 487, 287), (12, 490, 288), (13, 152, 291), (12, 493, 290), (13, 157, 292), (13, 140, 295), (12, 499, 294), (12, 496, 293), (13, 144, 296), (13, 161, 298), (12, 504, 297), (13, 165, 299), (13, 169, 300), (13, 173, 301), (13, 178, 302), (13, 182, 303), (13, 186, 305), (12, 521, 304), (13, 190, 306), (13, 194, 307)] : List _))))))) := h
  try simp only [List.mem_append] at h2
  rcases h2 with h2 | h2 | h2 | h2 | h2 | h2
  · exact gs_ml_ok_0 _ (List.mem_map.mpr ⟨x, h2, rfl⟩)
  · exact gs_ml_ok_1 _ (List.mem_map.mpr ⟨x, h2, rfl⟩)
  · exact gs_ml_ok_2 _ (List.mem_map.mpr ⟨x, h2, rfl⟩)
  · exact gs_ml_ok_3 _ (List.mem_map.mpr ⟨x, h2, rfl⟩)
  · exact gs_ml_ok_4 _ (List.mem_map.mpr ⟨x, h2, rfl⟩)
  · exact gs_ml_ok_5 _ (List.mem_map.mpr ⟨x, h2, rfl⟩)
