def pDall : List pWd := pD_0 ++ (pD_1 ++ (pD_2 ++ (pD_3 ++ (pD_4 ++ (pD_5 ++ (pD_6 ++ (pD_7 ++ (pD_8 ++ pD_9))))))))
def lkF : List (Nat × Nat × Nat × Nat) := [(9, 9, 9, 0), (9, 15, 9, 1), (9, 19, 9, 2), (5, 60, 9, 2), (11, 119, 9, 2), (8, 116, 9, 2), (9, 22, 9, 3), (10, 72, 9, 3), (7, 44, 9, 3), (9, 25, 9, 4), (7, 54, 9, 4), (9, 28, 9, 5), (10, 81, 9, 5), (7, 61, 9, 5), (6, 9, 6, 0), (7, 51, 6, 0), (11, 149, 6, 0), (6, 15, 6, 1), (11, 98, 6, 1), (2, 87, 6, 1), (7, 90, 6, 1), (5, 105, 6, 1), (6, 18, 6, 2), (8, 50, 6, 2), (1, 29, 6, 2), (4, 47, 6, 2), (11, 106, 6, 2), (7, 108, 6, 2), (0, 67, 6, 2), (2, 144, 6, 2), (5, 127, 6, 2), (6, 21, 6, 3), (1, 53, 6, 3), (7, 134, 6, 3), (11, 158, 6, 3), (6, 24, 6, 4), (6, 28, 6, 5), (11, 190, 6, 5), (6, 32, 6, 6), (1, 59, 6, 6), (11, 193, 6, 6), (6, 35, 6, 7), (7, 131, 6, 7), (11, 187, 6, 7), (6, 38, 6, 8), (4, 91, 6, 8), (1, 62, 6, 8), (2, 104, 6, 8), (0, 63, 6, 8), (5, 130, 6, 8), (11, 180, 6, 8), (6, 41, 6, 9), (1, 56, 6, 9), (6, 44, 6, 10), (6, 47, 6, 11), (8, 72, 6, 11), (7, 124, 6, 11), (11, 184, 6, 11), (7, 29, 7, 0), (7, 12, 7, 1), (11, 130, 7, 1), (7, 18, 7, 2), (7, 22, 7, 3), (11, 152, 7, 3), (7, 26, 7, 4), (11, 155, 7, 4), (8, 46, 8, 0), (8, 9, 8, 1), (1, 35, 8, 1), (11, 196, 8, 1), (8, 15, 8, 2), (1, 50, 8, 2), (11, 164, 8, 2), (8, 19, 8, 3), (8, 23, 8, 4), (8, 26, 8, 5), (8, 29, 8, 6), (8, 32, 8, 7), (8, 35, 8, 8), (8, 38, 8, 9), (8, 43, 8, 10), (1, 21, 1, 0), (1, 25, 1, 1), (1, 9, 1, 2), (11, 212, 1, 2), (1, 15, 1, 3), (11, 215, 1, 3), (1, 18, 1, 4), (11, 218, 1, 4), (5, 39, 5, 0), (5, 43, 5, 1), (5, 11, 5, 2), (11, 237, 5, 2), (5, 16, 5, 3), (11, 261, 5, 3), (5, 20, 5, 4), (5, 23, 5, 5), (5, 26, 5, 6), (5, 29, 5, 7), (5, 32, 5, 8), (5, 35, 5, 9), (10, 9, 10, 0), (11, 267, 10, 0), (10, 15, 10, 1), (11, 161, 10, 1), (10, 19, 10, 2), (10, 22, 10, 3), (11, 282, 10, 3), (10, 25, 10, 4), (11, 301, 10, 4), (10, 28, 10, 5), (11, 279, 10, 5), (10, 31, 10, 6), (11, 289, 10, 6), (10, 37, 10, 7), (11, 285, 10, 7), (10, 40, 10, 8), (10, 43, 10, 9), (10, 46, 10, 10), (10, 49, 10, 11), (10, 52, 10, 12), (10, 55, 10, 13), (10, 58, 10, 14), (10, 61, 10, 15), (3, 9, 3, 0), (11, 324, 3, 0), (3, 15, 3, 1), (11, 383, 3, 1), (3, 18, 3, 2), (11, 311, 3, 2), (3, 21, 3, 3), (3, 25, 3, 4), (3, 28, 3, 5), (3, 31, 3, 6), (3, 34, 3, 7), (3, 37, 3, 8), (3, 40, 3, 9), (3, 43, 3, 10), (2, 95, 3, 10), (3, 46, 3, 11), (2, 98, 3, 11), (3, 49, 3, 12), (2, 101, 3, 12), (3, 52, 3, 13), (2, 105, 3, 13), (0, 30, 0, 0), (0, 9, 0, 1), (11, 340, 0, 1), (0, 15, 0, 2), (11, 343, 0, 2), (0, 18, 0, 3), (11, 346, 0, 3), (0, 21, 0, 4), (11, 349, 0, 4), (0, 24, 0, 5), (11, 352, 0, 5), (0, 27, 0, 6), (11, 355, 0, 6), (2, 55, 2, 0), (2, 59, 2, 1), (2, 9, 2, 2), (2, 15, 2, 3), (4, 42, 2, 3), (11, 331, 2, 3), (2, 18, 2, 4), (11, 334, 2, 4), (2, 21, 2, 5), (4, 70, 2, 5), (2, 24, 2, 6), (4, 73, 2, 6), (2, 28, 2, 7), (4, 76, 2, 7), (2, 31, 2, 8), (4, 88, 2, 8), (2, 34, 2, 9), (4, 98, 2, 9), (2, 37, 2, 10), (4, 101, 2, 10), (2, 40, 2, 11), (4, 92, 2, 11), (2, 43, 2, 12), (4, 95, 2, 12), (2, 46, 2, 13), (2, 49, 2, 14), (2, 52, 2, 15), (4, 34, 4, 0), (4, 38, 4, 1), (4, 11, 4, 2), (4, 15, 4, 3), (4, 18, 4, 4), (4, 21, 4, 5), (4, 24, 4, 6), (4, 27, 4, 7), (4, 31, 4, 8), (11, 10, 11, 0), (11, 19, 11, 1), (11, 28, 11, 2), (11, 37, 11, 3), (11, 46, 11, 4), (11, 55, 11, 5), (11, 62, 11, 6), (11, 69, 11, 7), (11, 76, 11, 8), (11, 85, 11, 9), (11, 94, 11, 10), (12, 16, 12, 0), (12, 67, 12, 1), (12, 13, 12, 2), (12, 7, 12, 3), (12, 20, 12, 4), (12, 27, 12, 5), (12, 37, 12, 6), (12, 56, 12, 7), (12, 1, 12, 8), (12, 10, 12, 9), (12, 267, 12, 10), (12, 270, 12, 11), (12, 158, 12, 12), (12, 273, 12, 13), (12, 70, 12, 14), (12, 97, 12, 15), (12, 126, 12, 16), (12, 129, 12, 17), (12, 122, 12, 18), (12, 73, 12, 19), (12, 160, 12, 20), (12, 163, 12, 21), (12, 166, 12, 22), (12, 169, 12, 23), (12, 171, 12, 24), (12, 174, 12, 25), (12, 177, 12, 26), (12, 87, 12, 27), (12, 91, 12, 28), (12, 94, 12, 29), (12, 104, 12, 30), (12, 107, 12, 31), (12, 110, 12, 32), (12, 113, 12, 33), (12, 315, 12, 34), (12, 182, 12, 35), (12, 185, 12, 36), (12, 188, 12, 37), (12, 191, 12, 38), (12, 194, 12, 39), (12, 197, 12, 40), (12, 200, 12, 41), (12, 203, 12, 42), (12, 386, 12, 43), (12, 392, 12, 44), (12, 395, 12, 45), (12, 206, 12, 46), (12, 209, 12, 47), (12, 403, 12, 48), (12, 312, 12, 49), (12, 433, 12, 50), (12, 212, 12, 51), (12, 215, 12, 52), (12, 218, 12, 53), (12, 221, 12, 54), (12, 224, 12, 55), (12, 427, 12, 56), (12, 430, 12, 57), (12, 424, 12, 58), (12, 420, 12, 59), (12, 276, 12, 60), (12, 279, 12, 61), (12, 282, 12, 62), (12, 227, 12, 63), (12, 230, 12, 64), (12, 233, 12, 65), (12, 236, 12, 66), (12, 239, 12, 67), (12, 242, 12, 68), (12, 245, 12, 69), (12, 248, 12, 70), (12, 496, 12, 71), (12, 499, 12, 72), (12, 251, 12, 73)]
set_option maxRecDepth 100000 in
theorem lkF_eq : pDall.filterMap (fun q => bif Nat.beq q.1 0 then some (q.2.1, q.2.2.1, q.2.2.2.1, q.2.2.2.2.toNat) else none) = lkF := by decide +kernel
def lkM : List (Nat × Nat × Nat) := [(13, 9, 117), (11, 25, 68), (11, 34, 82), (11, 43, 10), (11, 52, 42), (5, 47, 43), (5, 50, 267), (5, 56, 44), (11, 75, 1), (11, 82, 18), (11, 91, 37), (13, 13, 128), (11, 122, 98), (13, 18, 129), (11, 102, 118), (13, 23, 130), (11, 126, 69), (7, 33, 57), (7, 36, 100), (7, 41, 101), (9, 32, 99), (9, 36, 104), (9, 40, 105), (9, 43, 102), (9, 46, 106), (9, 49, 103), (7, 47, 71), (7, 57, 70), (7, 67, 72), (7, 93, 77), (7, 118, 78), (7, 96, 59), (7, 100, 79), (7, 121, 80), (7, 104, 60), (7, 72, 73), (7, 111, 81), (7, 114, 61), (7, 77, 74), (7, 82, 75), (7, 87, 76), (11, 133, 58), (11, 136, 83), (8, 55, 63), (6, 56, 62), (8, 59, 64), (8, 62, 84), (8, 65, 85), (8, 85, 86), (8, 68, 87), (8, 88, 90), (8, 106, 91), (8, 110, 92), (8, 98, 88), (8, 102, 89), (11, 139, 11), (1, 40, 12), (1, 44, 62), (1, 47, 63), (11, 140, 43), (11, 143, 32), (11, 146, 19), (13, 28, 131), (13, 32, 132), (11, 165, 133), (11, 169, 121), (11, 173, 120), (11, 176, 63), (13, 36, 134), (13, 40, 135), (11, 199, 93), (13, 44, 136), (11, 202, 94), (8, 119, 99), (8, 126, 95), (8, 129, 96), (13, 48, 137), (11, 206, 122), (11, 209, 14), (1, 71, 13), (13, 53, 138), (11, 221, 15), (11, 224, 16), (13, 57, 139), (13, 61, 140), (11, 227, 17), (13, 65, 141), (11, 230, 123), (11, 233, 45), (5, 65, 46), (5, 75, 99), (13, 69, 142), (13, 73, 143), (11, 243, 47), (5, 79, 14), (13, 78, 144), (11, 247, 48), (5, 90, 51), (5, 94, 52), (11, 250, 49), (11, 253, 50), (13, 82, 145), (11, 258, 53), (5, 101, 54), (5, 116, 55), (5, 124, 48), (13, 86, 146), (13, 90, 147), (11, 264, 108), (10, 64, 100), (10, 69, 101), (13, 94, 148), (13, 98, 149), (11, 270, 150), (11, 274, 109), (10, 92, 113), (10, 112, 114), (10, 115, 115), (10, 96, 110), (10, 105, 111), (13, 102, 151), (13, 106, 152), (13, 111, 153), (11, 292, 112), (13, 115, 154), (11, 304, 116), (13, 120, 155), (11, 308, 124), (11, 314, 125), (11, 317, 126), (11, 320, 33), (13, 125, 156), (11, 325, 34), (13, 129, 157), (11, 328, 20), (2, 63, 35), (3, 55, 36), (2, 69, 66), (2, 75, 21), (2, 79, 22), (2, 108, 2), (2, 113, 3), (0, 34, 4), (2, 83, 23), (2, 126, 24), (2, 130, 65), (13, 133, 158), (11, 337, 5), (0, 37, 66), (0, 43, 65), (0, 46, 67), (6, 64, 65), (6, 68, 66), (0, 53, 6), (0, 57, 7), (13, 137, 159), (11, 358, 8), (0, 60, 2), (13, 141, 160), (11, 361, 25), (11, 364, 27), (13, 145, 161), (11, 367, 26), (2, 133, 4), (13, 149, 162), (11, 370, 38), (4, 52, 40), (4, 64, 267), (4, 79, 4), (4, 85, 24), (4, 56, 39), (4, 60, 41), (4, 104, 2), (13, 153, 163), (11, 374, 127), (11, 377, 28), (2, 136, 29), (2, 140, 30), (13, 157, 164), (11, 380, 9), (0, 70, 8), (13, 161, 165), (11, 386, 67), (13, 12, 185), (12, 254, 197), (12, 333, 196), (12, 324, 194), (12, 289, 192), (12, 327, 195), (12, 330, 193), (13, 17, 186), (12, 257, 187), (13, 22, 188), (12, 52, 166), (13, 27, 189), (12, 261, 175), (12, 63, 171), (12, 23, 168), (12, 30, 169), (12, 34, 170), (12, 264, 184), (12, 118, 172), (12, 134, 178), (12, 49, 167), (12, 81, 177), (12, 77, 176), (12, 84, 174), (12, 59, 173), (12, 138, 180), (12, 100, 179), (12, 143, 181), (12, 148, 182), (12, 151, 183), (13, 31, 190), (13, 35, 191), (13, 39, 200), (12, 336, 198), (13, 43, 201), (13, 47, 203), (12, 339, 202), (13, 52, 211), (12, 360, 199), (12, 363, 210), (12, 366, 209), (12, 355, 208), (12, 346, 205), (12, 343, 204), (12, 349, 206), (12, 352, 207), (13, 56, 214), (12, 371, 212), (12, 374, 213), (13, 60, 215), (13, 64, 216), (13, 68, 218), (12, 379, 217), (13, 72, 219), (13, 77, 220), (13, 81, 222), (12, 400, 221), (13, 85, 225), (12, 406, 223), (12, 409, 224), (13, 89, 226), (13, 93, 227), (13, 97, 229), (12, 417, 228), (13, 101, 234), (12, 446, 233), (12, 440, 232), (12, 436, 231), (12, 449, 230), (13, 105, 235), (13, 110, 236), (13, 114, 237), (13, 119, 238), (13, 124, 241), (12, 463, 239), (12, 466, 240), (13, 128, 242), (13, 136, 252), (12, 487, 251), (12, 484, 246), (12, 469, 244), (12, 472, 245), (12, 475, 248), (12, 478, 249), (12, 481, 247), (13, 140, 253), (12, 492, 250), (13, 132, 257), (12, 505, 256), (12, 508, 255), (12, 502, 243), (13, 144, 259), (12, 511, 254), (12, 514, 258), (13, 148, 260), (13, 152, 262), (12, 517, 261), (13, 156, 264), (12, 520, 263), (13, 160, 265), (13, 164, 266)]
set_option maxRecDepth 100000 in
theorem lkM_eq : pDall.filterMap (fun q => bif Nat.beq q.1 1 then some (q.2.1, q.2.2.1, q.2.2.2.1) else none) = lkM := by decide +kernel
def lkJ : List (Nat × Nat × Nat) := [(11, 1, 0), (9, 3, 0), (6, 3, 0), (7, 3, 0), (8, 3, 0), (1, 3, 0), (5, 3, 0), (10, 3, 0), (3, 3, 0), (0, 3, 0), (2, 3, 0), (4, 5, 0), (6, 50, 6), (8, 79, 1), (8, 113, 2), (8, 92, 6), (1, 65, 1), (5, 85, 1), (5, 98, 2), (5, 110, 6), (10, 75, 6), (10, 99, 4), (10, 109, 5), (2, 117, 1), (2, 90, 2), (4, 107, 1), (12, 153, 0), (12, 318, 1), (12, 40, 7), (12, 45, 8), (12, 389, 2), (12, 523, 3)]
set_option maxRecDepth 100000 in
theorem lkJ_eq : pDall.filterMap (fun q => bif Nat.beq q.1 2 then some (q.2.1, q.2.2.1, q.2.2.2.1) else none) = lkJ := by decide +kernel
def lkN : List (Nat × Nat × Nat) := [(11, 9, 97), (11, 18, 56), (7, 11, 56), (11, 61, 107), (11, 68, 31), (7, 137, 118), (7, 128, 119), (6, 60, 119), (8, 75, 119), (8, 122, 118), (5, 71, 118), (5, 120, 119), (10, 88, 118), (10, 119, 119), (2, 122, 118), (0, 49, 118)]
set_option maxRecDepth 100000 in
theorem lkN_eq : pDall.filterMap (fun q => bif Nat.beq q.1 3 then some (q.2.1, q.2.2.1, q.2.2.2.1) else none) = lkN := by decide +kernel
def lkC : List (Nat × Nat × Nat) := [(13, 7, 11), (11, 7, 9), (11, 16, 6), (11, 23, 7), (7, 9, 6), (11, 32, 8), (11, 41, 1), (11, 50, 5), (11, 59, 10), (11, 66, 3), (11, 73, 0), (11, 80, 2), (11, 89, 4), (13, 10, 12)]
set_option maxRecDepth 100000 in
theorem lkC_eq : pDall.filterMap (fun q => bif Nat.beq q.1 4 then some (q.2.1, q.2.2.1, q.2.2.2.1) else none) = lkC := by decide +kernel
def lkA : List (Nat × Nat × Nat) := [(8, 41, 0), (5, 9, 0), (12, 180, 0)]
set_option maxRecDepth 100000 in
theorem lkA_eq : pDall.filterMap (fun q => bif Nat.beq q.1 5 then some (q.2.1, q.2.2.1, q.2.2.2.1) else none) = lkA := by decide +kernel
def lkL : List (Nat × Nat × Int) := [(10, 35, (-1)), (9, 52, 27), (9, 54, 97), (9, 56, 10), (9, 58, 48), (7, 65, 405012), (7, 70, 388708), (7, 75, 664272), (7, 80, 259679), (7, 85, 180392), (11, 109, 99), (11, 111, 3), (5, 69, 999), (11, 241, 500), (11, 256, 99999), (10, 84, 10), (10, 86, 200), (11, 277, 9999), (11, 295, 9), (11, 297, (-2)), (11, 299, (-4)), (10, 123, 1000000), (11, 113, 999), (11, 115, 39), (11, 117, (-99)), (2, 120, 5), (12, 285, 10), (12, 287, 9), (12, 292, 20), (12, 294, 19), (12, 296, 30), (12, 298, 29), (12, 300, 40), (12, 302, 39), (12, 304, 50), (12, 306, 49), (12, 308, 60), (12, 310, 59), (12, 358, 99), (12, 369, 4), (12, 377, 3), (12, 382, 999), (12, 384, 500), (12, 398, 2), (12, 413, 99999), (12, 415, 200), (12, 444, 9999), (12, 453, (-1)), (12, 455, (-2)), (12, 457, (-4)), (12, 459, 1000000), (12, 461, (-99)), (12, 490, 5)]
set_option maxRecDepth 100000 in
theorem lkL_eq : pDall.filterMap (fun q => bif Nat.beq q.1 11 then some (q.2.1, q.2.2.1, q.2.2.2.2) else none) = lkL := by decide +kernel
def lk6 : List Nat := [117, 97, 56, 68, 82, 10, 42, 43, 267, 44, 107, 31, 1, 18, 37, 128, 98, 129, 118, 130, 69, 57, 100, 101, 99, 104, 105, 102, 106, 103, 71, 70, 72, 77, 78, 59, 79, 80, 60, 73, 81, 61, 74, 119, 75, 76, 58, 83, 63, 62, 64, 84, 85, 86, 87, 90, 91, 92, 88, 89, 11, 12, 32, 19, 131, 132, 133, 121, 120, 134, 135, 93, 136, 94, 95, 96, 137, 122, 14, 13, 138, 15, 16, 139, 140, 17, 141, 123, 45, 46, 142, 143, 47, 144, 48, 51, 52, 49, 50, 145, 53, 54, 55, 146, 147, 108, 148, 149, 150, 109, 113, 114, 115, 110, 111, 151, 152, 153, 112, 154, 116, 155, 124, 125, 126, 33, 156, 34, 157, 20, 35, 36, 66, 21, 22, 2, 3, 4, 23, 24, 65, 158, 5, 67, 6, 7, 159, 8, 160, 25, 27, 161, 26, 162, 38, 40, 39, 41, 163, 127, 28, 29, 30, 164, 9, 165, 185, 197, 196, 194, 192, 195, 193, 186, 187, 188, 166, 189, 175, 171, 168, 169, 170, 184, 172, 178, 167, 177, 176, 174, 173, 180, 179, 181, 182, 183, 190, 191, 200, 198, 201, 203, 202, 211, 199, 210, 209, 208, 205, 204, 206, 207, 214, 212, 213, 215, 216, 218, 217, 219, 220, 222, 221, 225, 223, 224, 226, 227, 229, 228, 234, 233, 232, 231, 230, 235, 236, 237, 238, 241, 239, 240, 242, 252, 251, 246, 244, 245, 248, 249, 247, 253, 250, 257, 256, 255, 243, 259, 254, 258, 260, 262, 261, 264, 263, 265, 266]
set_option maxRecDepth 100000 in
theorem lk6_eq : pDall.filterMap (fun q => bif Nat.beq q.1 6 then some q.2.1 else none) = lk6 := by decide +kernel
def lk7 : List Nat := [13, 11, 9, 6, 7, 8, 1, 5, 14, 10, 3, 0, 2, 4, 12]
set_option maxRecDepth 100000 in
theorem lk7_eq : pDall.filterMap (fun q => bif Nat.beq q.1 7 then some q.2.1 else none) = lk7 := by decide +kernel
def lk8 : List Nat := [267, 118, 104, 105, 106, 119, 122, 123, 46, 150, 111, 124, 125, 126, 2, 3, 4, 127, 166, 169, 170, 210, 217, 233, 230, 239, 240, 256, 263]
set_option maxRecDepth 100000 in
theorem lk8_eq : pDall.filterMap (fun q => bif Nat.beq q.1 8 then some q.2.1 else none) = lk8 := by decide +kernel
def lk9 : List Nat := [117, 97, 56, 68, 82, 10, 42, 43, 44, 107, 31, 1, 18, 37, 128, 98, 129, 130, 69, 57, 100, 101, 99, 102, 103, 71, 70, 72, 77, 78, 59, 79, 80, 60, 73, 81, 61, 74, 75, 76, 58, 83, 63, 62, 64, 84, 85, 86, 87, 90, 91, 92, 88, 89, 11, 12, 32, 19, 131, 132, 133, 121, 120, 134, 135, 93, 136, 94, 95, 96, 137, 14, 13, 138, 15, 16, 139, 140, 17, 141, 45, 142, 143, 47, 144, 48, 51, 52, 49, 50, 145, 53, 54, 55, 146, 147, 108, 148, 149, 109, 113, 114, 115, 110, 151, 152, 153, 112, 154, 116, 155, 33, 156, 34, 157, 20, 35, 36, 66, 21, 22, 23, 24, 65, 158, 5, 67, 6, 7, 159, 8, 160, 25, 27, 161, 26, 162, 38, 40, 39, 41, 163, 28, 29, 30, 164, 9, 165, 185, 197, 196, 194, 192, 195, 193, 186, 187, 188, 189, 175, 171, 168, 184, 172, 178, 167, 177, 176, 174, 173, 180, 179, 181, 182, 183, 190, 191, 200, 198, 201, 203, 202, 211, 199, 209, 208, 205, 204, 206, 207, 214, 212, 213, 215, 216, 218, 219, 220, 222, 221, 225, 223, 224, 226, 227, 229, 228, 234, 232, 231, 235, 236, 237, 238, 241, 242, 252, 251, 246, 244, 245, 248, 249, 247, 253, 250, 257, 255, 243, 259, 254, 258, 260, 262, 261, 264, 265, 266]
set_option maxRecDepth 100000 in
theorem lk9_eq : pDall.filterMap (fun q => bif Nat.beq q.1 9 then some q.2.1 else none) = lk9 := by decide +kernel
def lk10 : List Nat := [44, 102, 103, 71, 70, 72, 77, 78, 79, 80, 73, 81, 74, 75, 76, 84, 85, 86, 87, 90, 91, 92, 88, 89, 12, 133, 121, 120, 95, 96, 51, 52, 54, 55, 113, 114, 115, 110, 36, 21, 22, 23, 6, 7, 40, 39, 41, 29, 30, 197, 196, 194, 192, 195, 193, 187, 175, 171, 168, 184, 172, 178, 167, 177, 176, 174, 173, 180, 179, 181, 182, 183, 198, 202, 199, 209, 208, 205, 204, 206, 207, 212, 213, 221, 223, 224, 228, 232, 231, 251, 246, 244, 245, 248, 249, 247, 250, 255, 243, 254, 258, 261, 43, 128, 98, 129, 130, 69, 57, 100, 101, 99, 59, 60, 61, 58, 83, 63, 62, 64, 11, 32, 19, 131, 132, 134, 135, 93, 136, 94, 137, 14, 13, 138, 15, 16, 139, 140, 17, 141, 45, 142, 143, 47, 144, 48, 49, 50, 145, 53, 146, 147, 108, 148, 149, 109, 151, 152, 153, 112, 154, 116, 155, 33, 156, 34, 157, 20, 35, 66, 24, 65, 158, 5, 67, 159, 8, 160, 25, 27, 161, 26, 162, 38, 163, 28, 164, 9, 165, 186, 188, 189, 190, 191, 200, 201, 203, 211, 214, 215, 216, 218, 219, 220, 222, 225, 226, 227, 229, 234, 235, 236, 237, 238, 241, 242, 252, 253, 257, 259, 260, 262, 264, 265, 266]
set_option maxRecDepth 100000 in
theorem lk10_eq : pDall.filterMap (fun q => bif Nat.beq q.1 10 then some q.2.1 else none) = lk10 := by decide +kernel
def lk12 : List (Nat × Nat) := [(11, 11), (9, 6), (6, 12), (7, 5), (8, 11), (1, 5), (5, 10), (10, 16), (3, 14), (0, 7), (2, 16), (4, 9), (12, 74)]
set_option maxRecDepth 100000 in
theorem lk12_eq : pDall.filterMap (fun q => bif Nat.beq q.1 12 then some (q.2.1, q.2.2.1) else none) = lk12 := by decide +kernel
def lkS : List (Nat × Nat × Nat) := [(12, 116, 4), (12, 132, 0), (12, 136, 1), (12, 141, 2), (12, 146, 3)]
def lkf {α : Type} : List (Nat × Nat × α) → Nat → Nat → Option α
  | [], _, _ => none
  | (a, b, v) :: t, K, i => bif Nat.beq a K && Nat.beq b i then some v else lkf t K i
theorem lkf_mem {α : Type} {K i : Nat} {v : α} : ∀ {l : List (Nat × Nat × α)}, lkf l K i = some v → (K, i, v) ∈ l := by
  intro l
  induction l with
  | nil => intro h; cases h
  | cons q t ih =>
    obtain ⟨a, b, w⟩ := q
    intro h
    unfold lkf at h
    cases hc : (Nat.beq a K && Nat.beq b i) with
    | true =>
      rw [hc] at h
      rw [Bool.and_eq_true] at hc
      have h1 := Nat.eq_of_beq_eq_true hc.1
      have h2 := Nat.eq_of_beq_eq_true hc.2
      cases h
      subst h1; subst h2
      exact List.mem_cons_self
    | false => rw [hc] at h; exact List.mem_cons_of_mem _ (ih h)
/-- what a field holds: 0 an int, 1 a long, 2 a reference, 3 a boolean -/
def pfk (ci k : Nat) : Int := match pfY ci k with
  | .int => 0
  | .long => 1
  | .boolean => 3
  | _ => 2
def pfg (ci k : Nat) : Int := match pfk ci k with
  | 3 => 0
  | x => x
def prc (r : Option FieldType) : Nat := match r with
  | none => 0
  | some .long => 2
  | some .boolean => 3
  | some _ => 1
def prc1 (r : Option FieldType) : Nat := match r with
  | none => 0
  | some .long => 2
  | some _ => 1
def ptgt (pc : Nat) (off : Int) (k : Nat → Option pE) : Option pE := bif Int.decEq (((pc : Int) + off).toNat : Int) ((pc : Int) + off) |>.decide then k ((pc : Int) + off).toNat else none
def pnneg (x : Int) : Bool := match x with
  | .ofNat _ => true
  | .negSucc _ => false
/-- the methods that make -/
def pini (M : Nat) : Bool := pmem [1, 10, 18, 31, 37, 42, 56, 68, 82, 97, 107, 117, 185] M
/-- a linked method, called in a way (0 virtual, 1 static, 2 init) -/
def pcalM (way M : Nat) : Option pE := k_op (pmw M) none (fun w => bif Nat.beq way (bif w.2.2.2.2 then 1 else (bif pini M then 2 else 0)) then some (.invokestatic (prc1 w.2.2.1), 3, M, w.2.2.2.1, bif Nat.beq way 1 then -1 else (w.1 : Int)) else none)
def pcal (K way i : Nat) : Option pE := match lkf lkM K i with
  | some M => pcalM way M
  | none => match lkf lkN K i with
    | some M => pcalM way M
    | none => match lkf lkJ K i with
      | some J => (match J with
        | 0 => bif Nat.beq way 2 then some (.pop, 3, 0, 0, 0) else none
        | 1 => bif Nat.beq way 1 then some (.f2d, 3, 0, 0, 0) else none
        | 2 => bif Nat.beq way 1 then some (.f2i, 3, 0, 0, 0) else none
        | 3 => bif Nat.beq way 1 then some (.f2l, 3, 0, 0, 0) else none
        | 4 => bif Nat.beq way 1 then some (.d2f, 3, 0, 0, 0) else none
        | 5 => bif Nat.beq way 1 then some (.d2i, 3, 0, 0, 0) else none
        | 6 => bif Nat.beq way 1 then some (.d2l, 3, 0, 0, 0) else none
        | 7 => bif Nat.beq way 0 then some (.daload, 3, 0, 0, 0) else none
        | 8 => bif Nat.beq way 0 then some (.dastore, 3, 0, 0, 0) else none
        | _ => none)
      | none => none
/-- a real instruction, made plain: in the class K, in a method that answers rt -/
def ptr0 (K rt pc : Nat) (r : Instr) (len : Nat) : Option pE := match r with
  | .iconst n => bif (w32 n == n) then some (.iconst n, len, 0, 0, 0) else none
  | .bipush n => bif ((Int8.ofInt n).toInt32.toInt == n) then some (.iconst n, len, 0, 0, 0) else none
  | .sipush n => bif ((Int16.ofInt n).toInt32.toInt == n) then some (.iconst n, len, 0, 0, 0) else none
  | .lconst n => some (.ldc2_w 0, len, 0, 0, (n.val : Int))
  | .ldc2_w i => k_op (lkf lkL K i) none (fun q => some (.ldc2_w 0, len, 0, 0, q))
  | .ldc i => k_op (lkf lkS K i) none (fun q => some (.ldc 0, len, 500 + q, 0, 0))
  | .iload_n k => some (.iload k.val, len, 0, 0, 0)
  | .iload k => some (.iload k, len, 0, 0, 0)
  | .lload_n k => some (.lload k.val, len, 0, 0, 0)
  | .lload k => some (.lload k, len, 0, 0, 0)
  | .aload_n k => some (.aload k.val, len, 0, 0, 0)
  | .aload k => some (.aload k, len, 0, 0, 0)
  | .istore_n k => some (.istore k.val, len, 0, 0, 0)
  | .istore k => some (.istore k, len, 0, 0, 0)
  | .lstore_n k => some (.lstore k.val, len, 0, 0, 0)
  | .lstore k => some (.lstore k, len, 0, 0, 0)
  | .astore_n k => some (.astore k.val, len, 0, 0, 0)
  | .astore k => some (.astore k, len, 0, 0, 0)
  | .iinc i k => some (.iinc i k, len, 0, 0, 0)
  | .iadd => some (.iadd, len, 0, 0, 0)
  | .isub => some (.isub, len, 0, 0, 0)
  | .imul => some (.imul, len, 0, 0, 0)
  | .iand => some (.iand, len, 0, 0, 0)
  | .ior => some (.ior, len, 0, 0, 0)
  | .ixor => some (.ixor, len, 0, 0, 0)
  | .ishl => some (.ishl, len, 0, 0, 0)
  | .ishr => some (.ishr, len, 0, 0, 0)
  | .iushr => some (.iushr, len, 0, 0, 0)
  | .idiv => some (.idiv, len, 0, 0, 0)
  | .irem => some (.irem, len, 0, 0, 0)
  | .ineg => some (.ineg, len, 0, 0, 0)
  | .ladd => some (.ladd, len, 0, 0, 0)
  | .lsub => some (.lsub, len, 0, 0, 0)
  | .lmul => some (.lmul, len, 0, 0, 0)
  | .land => some (.land, len, 0, 0, 0)
  | .lor => some (.lor, len, 0, 0, 0)
  | .ldiv => some (.ldiv, len, 0, 0, 0)
  | .lrem => some (.lrem, len, 0, 0, 0)
  | .lneg => some (.lneg, len, 0, 0, 0)
  | .lshl => some (.lshl, len, 0, 0, 0)
  | .lshr => some (.lshr, len, 0, 0, 0)
  | .lcmp => some (.lcmp, len, 0, 0, 0)
  | .i2l => some (.i2l, len, 0, 0, 0)
  | .l2i => some (.l2i, len, 0, 0, 0)
  | .i2b => some (.i2b, len, 0, 0, 0)
  | .dup => some (.dup, len, 0, 0, 0)
  | .dup2 => some (.dup2, len, 0, 0, 0)
  | .goto off => ptgt pc off (fun t => some (.goto 0, len, t, 0, 0))
  | .ifCond cc off => ptgt pc off (fun t => some (.ifCond cc 0, len, t, 0, 0))
  | .if_icmp cc off => ptgt pc off (fun t => some (.if_icmp cc 0, len, t, 0, 0))
  | .tableswitch d lo hi offs => bif pnneg ((pc : Int) + d) && offs.toList.all (fun o => pnneg ((pc : Int) + o)) then some (.tableswitch d lo hi offs, len, 0, 0, 0) else none
  | .lookupswitch d ps => bif pnneg ((pc : Int) + d) && ps.toList.all (fun o => pnneg ((pc : Int) + o.2)) && (ps.toList.zip (ps.toList.drop 1)).all (fun (a, next) => a.1 < next.1) then some (.lookupswitch d ps, len, 0, 0, 0) else none
  | .getfield i => k_op (lkf lkF K i) none (fun q => some (.getfield 0, len, q.2, q.1, pfg q.1 q.2))
  | .putfield i => k_op (lkf lkF K i) none (fun q => some (.putfield 0, len, q.2, q.1, pfk q.1 q.2))
  | .iaload => some (bif Nat.beq K 13 then .faload else .iaload, len, 0, 0, 0)
  | .laload => some (.laload, len, 0, 0, 0)
  | .baload => some (.baload, len, 0, 0, 0)
  | .aaload => some (.aaload, len, 0, 0, 0)
  | .iastore => some (.iastore, len, 0, 0, 0)
  | .bastore => some (.bastore, len, 0, 0, 0)
  | .lastore => some (.lastore, len, 0, 0, 0)
  | .arraylength => some (bif Nat.beq K 13 then .fastore else .arraylength, len, 0, 0, 0)
  | .invokevirtual i => pcal K 0 i
  | .invokestatic i => pcal K 1 i
  | .invokespecial i => pcal K 2 i
  | .new i => k_op (lkf lkC K i) none (fun q => some (.new 0, len, q, pfN q, 0))
  | .newarray t => match t with
    | .int => some (.newarray .int, len, 100, 0, 0)
    | .long => some (.newarray .long, len, 101, 0, 0)
    | .byte => some (.newarray .byte, len, 102, 0, 0)
    | _ => none
  | .multianewarray i n => bif Nat.beq n 2 then k_op (lkf lkA K i) none (fun _ => some (.multianewarray 0 2, len, 0, 0, 0)) else none
  | .ireturn => some (.ireturn, len, 0, 0, bif Nat.beq rt 3 then 3 else 0)
  | .lreturn => some (.lreturn, len, 0, 0, 0)
  | .return_ => some (.return_, len, 0, 0, 0)
  | _ => none
/-- how long an instruction is -/
def plen (r : Instr) (len : Nat) : Nat := match r with
  | .bipush _ | .iload _ | .lload _ | .aload _ | .istore _ | .lstore _ | .astore _ | .ldc _ | .newarray _ => 2
  | .sipush _ | .ldc2_w _ | .iinc _ _ | .goto _ | .ifCond _ _ | .if_icmp _ _ | .getfield _ | .putfield _ | .invokevirtual _ | .invokestatic _ | .invokespecial _ | .new _ => 3
  | .multianewarray _ _ => 4
  | .tableswitch _ _ _ _ | .lookupswitch _ _ => len
  | _ => 1
def ptr (K rt pc : Nat) (r : Instr) (len : Nat) : Option pE := bif Nat.beq len (plen r len) then ptr0 K rt pc r len else none
def pchkr (K rt : Nat) (cc : ByteArray) : Nat → List (Option pE) → Bool
  | _, [] => true
  | pc, none :: l => pchkr K rt cc (pc + 1) l
  | pc, some e :: l => (match decode cc pc with
    | .ok (r, len) => decide (ptr K rt pc r len = some e)
    | _ => false) && pchkr K rt cc (pc + 1) l
def pchk (K rt : Nat) (cc : ByteArray) : Nat → pT → Bool
  | _, [] => true
  | pc, r :: t => pchkr K rt cc pc r && pchk K rt cc (pc + 16) t
theorem pchkr_at {K rt : Nat} {cc : ByteArray} {e : pE} : ∀ {l : List (Option pE)} {pc j : Nat}, pchkr K rt cc pc l = true → pn l j = some (some e) → ∃ r len, decode cc (pc + j) = .ok (r, len) ∧ ptr K rt (pc + j) r len = some e := by
  intro l
  induction l with
  | nil => intro pc j _ h; cases h
  | cons o l ih =>
    intro pc j h hj
    cases j with
    | zero =>
      cases hj
      unfold pchkr at h
      rw [Bool.and_eq_true] at h
      have h1 := h.1
      split at h1
      · rename_i r len hd
        exact ⟨r, len, hd, of_decide_eq_true h1⟩
      · cases h1
    | succ j =>
      have h2 : pchkr K rt cc (pc + 1) l = true := by
        cases o with
        | none => exact h
        | some e0 =>
          unfold pchkr at h
          rw [Bool.and_eq_true] at h
          exact h.2
      have h3 := ih (j := j) h2 hj
      rw [show pc + (j + 1) = pc + 1 + j by omega]
      exact h3
theorem pchk_at {K rt : Nat} {cc : ByteArray} {e : pE} : ∀ {t : pT} {pc i j : Nat} {l : List (Option pE)}, pchk K rt cc pc t = true → pn t i = some l → pn l j = some (some e) → ∃ r len, decode cc (pc + 16 * i + j) = .ok (r, len) ∧ ptr K rt (pc + 16 * i + j) r len = some e := by
  intro t
  induction t with
  | nil => intro pc i j l _ h _; cases h
  | cons r t ih =>
    intro pc i j l h hi hj
    unfold pchk at h
    rw [Bool.and_eq_true] at h
    cases i with
    | zero => cases hi; exact pchkr_at h.1 hj
    | succ i =>
      have h3 := ih (i := i) h.2 hi hj
      rw [show pc + 16 * (i + 1) + j = pc + 16 + 16 * i + j by omega]
      exact h3
theorem plook_at {K rt : Nat} {cc : ByteArray} {t : pT} {pc : Nat} {e : pE} (h : pchk K rt cc 0 t = true) (hl : plook t pc = some e) : ∃ r len, decode cc pc = .ok (r, len) ∧ ptr K rt pc r len = some e := by
  unfold plook pn2 at hl
  cases h1 : pn t (pc / 16) with
  | none => rw [h1] at hl; cases hl
  | some l =>
    rw [h1] at hl
    dsimp only at hl
    cases h2 : pn l (pc % 16) with
    | none => rw [h2] at hl; cases hl
    | some o =>
      rw [h2] at hl
      cases o with
      | none => cases hl
      | some e0 =>
        cases hl
        have h3 := pchk_at h h1 h2
        rw [show 0 + 16 * (pc / 16) + pc % 16 = pc by omega] at h3
        exact h3
theorem zip_at {D : List pWd} {l : List Cond} (h : l = List.zipWith pwd D l) (hl : D.length = l.length) {q : pWd} (hq : q ∈ D) : ∃ c ∈ l, c = pwd q c := by
  obtain ⟨j, hj⟩ := List.getElem?_of_mem hq
  have hlt : j < l.length := by rw [← hl]; exact (List.getElem?_eq_some_iff.mp hj).1
  refine ⟨l[j], List.getElem_mem hlt, ?_⟩
  have h2 : l[j]? = some l[j] := List.getElem?_eq_getElem hlt
  have h3 : (List.zipWith pwd D l)[j]? = some (pwd q l[j]) := by
    rw [List.getElem?_zipWith, hj, h2]
  rw [← h, h2] at h3
  exact Option.some.inj h3
theorem pwd_any {q : pWd} (h : q.1 ≤ 12) (c c' : Cond) : pwd q c = pwd q c' := by
  obtain ⟨t, a, b, x, y⟩ := q
  have h : t ≤ 12 := h
  rcases t with _ | _ | _ | _ | _ | _ | _ | _ | _ | _ | _ | _ | _ | t
  all_goals first | rfl | omega
theorem zip_mem {D : List pWd} {l : List Cond} (h : l = List.zipWith pwd D l) (hl : D.length = l.length) {q : pWd} (hq : q ∈ D) (ht : q.1 ≤ 12) : pwd q .tt ∈ l := by
  obtain ⟨c, h1, h2⟩ := zip_at h hl hq
  rw [pwd_any ht .tt c, ← h2]
  exact h1
theorem pD_mem {q : pWd} (hq : q ∈ pDall) (ht : q.1 ≤ 12) : pwd q .tt ∈ lw_tbl := by
  unfold pDall at hq
  unfold lw_tbl
  rcases List.mem_append.mp hq with hq | hq
  · exact List.mem_append_left _ (zip_mem pD_ok_0 (by decide +kernel) hq ht)
  refine List.mem_append_right _ ?_
  unfold tables_1
  rcases List.mem_append.mp hq with hq | hq
  · exact List.mem_append_left _ (zip_mem pD_ok_1 (by decide +kernel) hq ht)
  refine List.mem_append_right _ ?_
  rcases List.mem_append.mp hq with hq | hq
  · exact List.mem_append_left _ (zip_mem pD_ok_2 (by decide +kernel) hq ht)
  refine List.mem_append_right _ ?_
  rcases List.mem_append.mp hq with hq | hq
  · exact List.mem_append_left _ (zip_mem pD_ok_3 (by decide +kernel) hq ht)
  refine List.mem_append_right _ ?_
  rcases List.mem_append.mp hq with hq | hq
  · exact List.mem_append_left _ (zip_mem pD_ok_4 (by decide +kernel) hq ht)
  refine List.mem_append_right _ ?_
  rcases List.mem_append.mp hq with hq | hq
  · exact List.mem_append_left _ (zip_mem pD_ok_5 (by decide +kernel) hq ht)
  refine List.mem_append_right _ ?_
  rcases List.mem_append.mp hq with hq | hq
  · exact List.mem_append_left _ (zip_mem pD_ok_6 (by decide +kernel) hq ht)
  refine List.mem_append_right _ ?_
  rcases List.mem_append.mp hq with hq | hq
  · exact List.mem_append_left _ (zip_mem pD_ok_7 (by decide +kernel) hq ht)
  refine List.mem_append_right _ ?_
  rcases List.mem_append.mp hq with hq | hq
  · exact List.mem_append_left _ (zip_mem pD_ok_8 (by decide +kernel) hq ht)
  refine List.mem_append_right _ ?_
  exact zip_mem pD_ok_9 (by decide +kernel) hq ht
theorem pfm {α : Type} {f : pWd → α} {t : Nat} {L : List α} (e : pDall.filterMap (fun q => bif Nat.beq q.1 t then some (f q) else none) = L) {x : α} (hx : x ∈ L) : ∃ q ∈ pDall, q.1 = t ∧ f q = x := by
  rw [← e] at hx
  obtain ⟨q, h1, h2⟩ := List.mem_filterMap.mp hx
  cases hb : Nat.beq q.1 t with
  | true => rw [hb] at h2; cases h2; exact ⟨q, h1, Nat.eq_of_beq_eq_true hb, rfl⟩
  | false => rw [hb] at h2; cases h2
