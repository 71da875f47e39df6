/-! ===== the world behind the constructors ===== -/
set_option maxRecDepth 10000 in
def SH : List SC := [(11, 18, [some 1, some 4, some 43, some 73, some 103, some 133, some 134, some 135, some 138, some 142, some 146, some 151, some 156, some 180, some 204, some 246, some 248, none]), (9, 9, [some 2, some 3, none, none, none, none, none, none, none]), (13, 1000, []), (15, 19, []), (5, 10, [some 5, some 35, some 38, some 42, none, none, none, none, none, none]), (7, 8, [some 6, some 7, some 8, some 9, some 10, none, none, none]), (18, 4, [some 11, some 13, some 15, some 17]), (17, 8, [some 19, some 21, some 23, some 25, some 27, some 29, some 31, some 33]), (14, 8, []), (14, 8, []), (16, 8, []), (6, 4, [some 12, none, none, none]), (14, 20, []), (6, 4, [some 14, none, none, none]), (14, 20, []), (6, 4, [some 16, none, none, none]), (14, 20, []), (6, 4, [some 18, none, none, none]), (14, 20, []), (0, 4, [some 20, none, none, none]), (14, 10, []), (0, 4, [some 22, none, none, none]), (14, 10, []), (0, 4, [some 24, none, none, none]), (14, 10, []), (0, 4, [some 26, none, none, none]), (14, 10, []), (0, 4, [some 28, none, none, none]), (14, 10, []), (0, 4, [some 30, none, none, none]), (14, 10, []), (0, 4, [some 32, none, none, none]), (14, 10, []), (0, 4, [some 34, none, none, none]), (14, 10, []), (4, 3, [some 36, some 37, none]), (14, 1000, []), (14, 32, []), (3, 4, [some 39, some 40, some 41, none]), (14, 30, []), (14, 30, []), (14, 30, []), (14, 32, []), (7, 8, [some 44, some 45, some 46, some 47, some 48, none, none, none]), (18, 4, [some 49, some 51, some 53, some 55]), (17, 8, [some 57, some 59, some 61, some 63, some 65, some 67, some 69, some 71]), (14, 8, []), (14, 8, []), (16, 8, []), (6, 4, [some 50, none, none, none]), (14, 20, []), (6, 4, [some 52, none, none, none]), (14, 20, []), (6, 4, [some 54, none, none, none]), (14, 20, []), (6, 4, [some 56, none, none, none]), (14, 20, []), (0, 4, [some 58, none, none, none]), (14, 10, []), (0, 4, [some 60, none, none, none]), (14, 10, []), (0, 4, [some 62, none, none, none]), (14, 10, []), (0, 4, [some 64, none, none, none]), (14, 10, []), (0, 4, [some 66, none, none, none]), (14, 10, []), (0, 4, [some 68, none, none, none]), (14, 10, []), (0, 4, [some 70, none, none, none]), (14, 10, []), (0, 4, [some 72, none, none, none]), (14, 10, []), (7, 8, [some 74, some 75, some 76, some 77, some 78, none, none, none]), (18, 4, [some 79, some 81, some 83, some 85]), (17, 8, [some 87, some 89, some 91, some 93, some 95, some 97, some 99, some 101]), (14, 8, []), (14, 8, []), (16, 8, []), (6, 4, [some 80, none, none, none]), (14, 20, []), (6, 4, [some 82, none, none, none]), (14, 20, []), (6, 4, [some 84, none, none, none]), (14, 20, []), (6, 4, [some 86, none, none, none]), (14, 20, []), (0, 4, [some 88, none, none, none]), (14, 10, []), (0, 4, [some 90, none, none, none]), (14, 10, []), (0, 4, [some 92, none, none, none]), (14, 10, []), (0, 4, [some 94, none, none, none]), (14, 10, []), (0, 4, [some 96, none, none, none]), (14, 10, []), (0, 4, [some 98, none, none, none]), (14, 10, []), (0, 4, [some 100, none, none, none]), (14, 10, []), (0, 4, [some 102, none, none, none]), (14, 10, []), (7, 8, [some 104, some 105, some 106, some 107, some 108, none, none, none]), (18, 4, [some 109, some 111, some 113, some 115]), (17, 8, [some 117, some 119, some 121, some 123, some 125, some 127, some 129, some 131]), (14, 8, []), (14, 8, []), (16, 8, []), (6, 4, [some 110, none, none, none]), (14, 20, []), (6, 4, [some 112, none, none, none]), (14, 20, []), (6, 4, [some 114, none, none, none]), (14, 20, []), (6, 4, [some 116, none, none, none]), (14, 20, []), (0, 4, [some 118, none, none, none]), (14, 10, []), (0, 4, [some 120, none, none, none]), (14, 10, []), (0, 4, [some 122, none, none, none]), (14, 10, []), (0, 4, [some 124, none, none, none]), (14, 10, []), (0, 4, [some 126, none, none, none]), (14, 10, []), (0, 4, [some 128, none, none, none]), (14, 10, []), (0, 4, [some 130, none, none, none]), (14, 10, []), (0, 4, [some 132, none, none, none]), (14, 10, []), (19, 4, [some 249, some 279, some 309, some 339]), (16, 4, []), (4, 3, [some 136, some 137, none]), (14, 1000, []), (14, 32, []), (3, 4, [some 139, some 140, some 141, none]), (14, 30, []), (14, 30, []), (14, 30, []), (3, 4, [some 143, some 144, some 145, none]), (14, 16, []), (14, 16, []), (14, 16, []), (1, 9, [some 147, some 148, some 149, some 150, none, none, none, none, none]), (14, 20, []), (14, 20, []), (14, 20, []), (14, 20, []), (1, 9, [some 152, some 153, some 154, some 155, none, none, none, none, none]), (14, 20, []), (14, 20, []), (14, 20, []), (14, 20, []), (10, 3, [some 157, some 179, none]), (20, 21, [some 158, some 159, some 160, some 161, some 162, some 163, some 164, some 165, some 166, some 167, some 168, some 169, some 170, some 171, some 172, some 173, some 174, some 175, some 176, some 177, some 178]), (14, 21, []), (14, 21, []), (14, 21, []), (14, 21, []), (14, 21, []), (14, 21, []), (14, 21, []), (14, 21, []), (14, 21, []), (14, 21, []), (14, 21, []), (14, 21, []), (14, 21, []), (14, 21, []), (14, 21, []), (14, 21, []), (14, 21, []), (14, 21, []), (14, 21, []), (14, 21, []), (14, 21, []), (14, 21, []), (8, 3, [some 181, some 202, some 203]), (20, 20, [some 182, some 183, some 184, some 185, some 186, some 187, some 188, some 189, some 190, some 191, some 192, some 193, some 194, some 195, some 196, some 197, some 198, some 199, some 200, some 201]), (14, 20, []), (14, 20, []), (14, 20, []), (14, 20, []), (14, 20, []), (14, 20, []), (14, 20, []), (14, 20, []), (14, 20, []), (14, 20, []), (14, 20, []), (14, 20, []), (14, 20, []), (14, 20, []), (14, 20, []), (14, 20, []), (14, 20, []), (14, 20, []), (14, 20, []), (14, 20, []), (14, 20, []), (14, 20, []), (2, 6, [some 205, some 207, some 209, some 221, some 233, some 245]), (0, 4, [some 206, none, none, none]), (14, 10, []), (0, 4, [some 208, none, none, none]), (14, 10, []), (20, 11, [some 210, some 211, some 212, some 213, some 214, some 215, some 216, some 217, some 218, some 219, some 220]), (14, 11, []), (14, 11, []), (14, 11, []), (14, 11, []), (14, 11, []), (14, 11, []), (14, 11, []), (14, 11, []), (14, 11, []), (14, 11, []), (14, 11, []), (20, 11, [some 222, some 223, some 224, some 225, some 226, some 227, some 228, some 229, some 230, some 231, some 232]), (14, 11, []), (14, 11, []), (14, 11, []), (14, 11, []), (14, 11, []), (14, 11, []), (14, 11, []), (14, 11, []), (14, 11, []), (14, 11, []), (14, 11, []), (20, 11, [some 234, some 235, some 236, some 237, some 238, some 239, some 240, some 241, some 242, some 243, some 244]), (14, 11, []), (14, 11, []), (14, 11, []), (14, 11, []), (14, 11, []), (14, 11, []), (14, 11, []), (14, 11, []), (14, 11, []), (14, 11, []), (14, 11, []), (14, 10, []), (6, 4, [some 247, none, none, none]), (14, 20, []), (14, 21, []), (7, 8, [some 250, some 251, some 252, some 253, some 254, none, none, none]), (18, 4, [some 255, some 257, some 259, some 261]), (17, 8, [some 263, some 265, some 267, some 269, some 271, some 273, some 275, some 277]), (14, 8, []), (14, 8, []), (16, 8, []), (6, 4, [some 256, none, none, none]), (14, 20, []), (6, 4, [some 258, none, none, none]), (14, 20, []), (6, 4, [some 260, none, none, none]), (14, 20, []), (6, 4, [some 262, none, none, none]), (14, 20, []), (0, 4, [some 264, none, none, none]), (14, 10, []), (0, 4, [some 266, none, none, none]), (14, 10, []), (0, 4, [some 268, none, none, none]), (14, 10, []), (0, 4, [some 270, none, none, none]), (14, 10, []), (0, 4, [some 272, none, none, none]), (14, 10, []), (0, 4, [some 274, none, none, none]), (14, 10, []), (0, 4, [some 276, none, none, none]), (14, 10, []), (0, 4, [some 278, none, none, none]), (14, 10, []), (7, 8, [some 280, some 281, some 282, some 283, some 284, none, none, none]), (18, 4, [some 285, some 287, some 289, some 291]), (17, 8, [some 293, some 295, some 297, some 299, some 301, some 303, some 305, some 307]), (14, 8, []), (14, 8, []), (16, 8, []), (6, 4, [some 286, none, none, none]), (14, 20, []), (6, 4, [some 288, none, none, none]), (14, 20, []), (6, 4, [some 290, none, none, none]), (14, 20, []), (6, 4, [some 292, none, none, none]), (14, 20, []), (0, 4, [some 294, none, none, none]), (14, 10, []), (0, 4, [some 296, none, none, none]), (14, 10, []), (0, 4, [some 298, none, none, none]), (14, 10, []), (0, 4, [some 300, none, none, none]), (14, 10, []), (0, 4, [some 302, none, none, none]), (14, 10, []), (0, 4, [some 304, none, none, none]), (14, 10, []), (0, 4, [some 306, none, none, none]), (14, 10, []), (0, 4, [some 308, none, none, none]), (14, 10, []), (7, 8, [some 310, some 311, some 312, some 313, some 314, none, none, none]), (18, 4, [some 315, some 317, some 319, some 321]), (17, 8, [some 323, some 325, some 327, some 329, some 331, some 333, some 335, some 337]), (14, 8, []), (14, 8, []), (16, 8, []), (6, 4, [some 316, none, none, none]), (14, 20, []), (6, 4, [some 318, none, none, none]), (14, 20, []), (6, 4, [some 320, none, none, none]), (14, 20, []), (6, 4, [some 322, none, none, none]), (14, 20, []), (0, 4, [some 324, none, none, none]), (14, 10, []), (0, 4, [some 326, none, none, none]), (14, 10, []), (0, 4, [some 328, none, none, none]), (14, 10, []), (0, 4, [some 330, none, none, none]), (14, 10, []), (0, 4, [some 332, none, none, none]), (14, 10, []), (0, 4, [some 334, none, none, none]), (14, 10, []), (0, 4, [some 336, none, none, none]), (14, 10, []), (0, 4, [some 338, none, none, none]), (14, 10, []), (7, 8, [some 340, some 341, some 342, some 343, some 344, none, none, none]), (18, 4, [some 345, some 347, some 349, some 351]), (17, 8, [some 353, some 355, some 357, some 359, some 361, some 363, some 365, some 367]), (14, 8, []), (14, 8, []), (16, 8, []), (6, 4, [some 346, none, none, none]), (14, 20, []), (6, 4, [some 348, none, none, none]), (14, 20, []), (6, 4, [some 350, none, none, none]), (14, 20, []), (6, 4, [some 352, none, none, none]), (14, 20, []), (0, 4, [some 354, none, none, none]), (14, 10, []), (0, 4, [some 356, none, none, none]), (14, 10, []), (0, 4, [some 358, none, none, none]), (14, 10, []), (0, 4, [some 360, none, none, none]), (14, 10, []), (0, 4, [some 362, none, none, none]), (14, 10, []), (0, 4, [some 364, none, none, none]), (14, 10, []), (0, 4, [some 366, none, none, none]), (14, 10, []), (0, 4, [some 368, none, none, none]), (14, 10, []), (12, 42, [none, some 370, none, none, some 371, some 372, some 373, none, none, some 374, some 375, some 376, none, some 377, some 378, some 379, some 380, some 381, none, none, some 382, some 383, none, none, some 384, some 385, some 386, some 387, some 388, some 389, some 390, some 391, some 392, some 393, some 394, some 395, some 396, some 397, some 398, some 399, some 400, none]), (14, 1000, []), (14, 1002, []), (14, 1002, []), (15, 1002, []), (15, 19, []), (14, 280, []), (14, 2200, []), (15, 16, []), (14, 190, []), (14, 4, []), (14, 64, []), (14, 4532, []), (16, 4, []), (14, 20, []), (14, 441, []), (14, 20, []), (14, 20, []), (15, 20, []), (14, 20, []), (14, 20, []), (14, 420, []), (14, 21, []), (14, 20, []), (14, 21, []), (14, 10, []), (14, 10, []), (14, 10, []), (14, 121, []), (14, 121, []), (14, 121, []), (14, 21, []), (15, 1, [])]
theorem sh0 : SH[0]? = some (11, 18, [some 1, some 4, some 43, some 73, some 103, some 133, some 134, some 135, some 138, some 142, some 146, some 151, some 156, some 180, some 204, some 246, some 248, none]) := by decide +kernel
theorem sh1 : SH[1]? = some (9, 9, [some 2, some 3, none, none, none, none, none, none, none]) := by decide +kernel
theorem sh2 : SH[2]? = some (13, 1000, []) := by decide +kernel
theorem sh3 : SH[3]? = some (15, 19, []) := by decide +kernel
theorem sh4 : SH[4]? = some (5, 10, [some 5, some 35, some 38, some 42, none, none, none, none, none, none]) := by decide +kernel
theorem sh5 : SH[5]? = some (7, 8, [some 6, some 7, some 8, some 9, some 10, none, none, none]) := by decide +kernel
theorem sh6 : SH[6]? = some (18, 4, [some 11, some 13, some 15, some 17]) := by decide +kernel
theorem sh7 : SH[7]? = some (17, 8, [some 19, some 21, some 23, some 25, some 27, some 29, some 31, some 33]) := by decide +kernel
theorem sh8 : SH[8]? = some (14, 8, []) := by decide +kernel
theorem sh9 : SH[9]? = some (14, 8, []) := by decide +kernel
theorem sh10 : SH[10]? = some (16, 8, []) := by decide +kernel
theorem sh11 : SH[11]? = some (6, 4, [some 12, none, none, none]) := by decide +kernel
theorem sh12 : SH[12]? = some (14, 20, []) := by decide +kernel
theorem sh13 : SH[13]? = some (6, 4, [some 14, none, none, none]) := by decide +kernel
theorem sh14 : SH[14]? = some (14, 20, []) := by decide +kernel
theorem sh15 : SH[15]? = some (6, 4, [some 16, none, none, none]) := by decide +kernel
theorem sh16 : SH[16]? = some (14, 20, []) := by decide +kernel
theorem sh17 : SH[17]? = some (6, 4, [some 18, none, none, none]) := by decide +kernel
theorem sh18 : SH[18]? = some (14, 20, []) := by decide +kernel
theorem sh19 : SH[19]? = some (0, 4, [some 20, none, none, none]) := by decide +kernel
theorem sh20 : SH[20]? = some (14, 10, []) := by decide +kernel
theorem sh21 : SH[21]? = some (0, 4, [some 22, none, none, none]) := by decide +kernel
theorem sh22 : SH[22]? = some (14, 10, []) := by decide +kernel
theorem sh23 : SH[23]? = some (0, 4, [some 24, none, none, none]) := by decide +kernel
theorem sh24 : SH[24]? = some (14, 10, []) := by decide +kernel
theorem sh25 : SH[25]? = some (0, 4, [some 26, none, none, none]) := by decide +kernel
theorem sh26 : SH[26]? = some (14, 10, []) := by decide +kernel
theorem sh27 : SH[27]? = some (0, 4, [some 28, none, none, none]) := by decide +kernel
theorem sh28 : SH[28]? = some (14, 10, []) := by decide +kernel
theorem sh29 : SH[29]? = some (0, 4, [some 30, none, none, none]) := by decide +kernel
theorem sh30 : SH[30]? = some (14, 10, []) := by decide +kernel
theorem sh31 : SH[31]? = some (0, 4, [some 32, none, none, none]) := by decide +kernel
theorem sh32 : SH[32]? = some (14, 10, []) := by decide +kernel
theorem sh33 : SH[33]? = some (0, 4, [some 34, none, none, none]) := by decide +kernel
theorem sh34 : SH[34]? = some (14, 10, []) := by decide +kernel
theorem sh35 : SH[35]? = some (4, 3, [some 36, some 37, none]) := by decide +kernel
theorem sh36 : SH[36]? = some (14, 1000, []) := by decide +kernel
theorem sh37 : SH[37]? = some (14, 32, []) := by decide +kernel
theorem sh38 : SH[38]? = some (3, 4, [some 39, some 40, some 41, none]) := by decide +kernel
theorem sh39 : SH[39]? = some (14, 30, []) := by decide +kernel
theorem sh40 : SH[40]? = some (14, 30, []) := by decide +kernel
theorem sh41 : SH[41]? = some (14, 30, []) := by decide +kernel
theorem sh42 : SH[42]? = some (14, 32, []) := by decide +kernel
theorem sh43 : SH[43]? = some (7, 8, [some 44, some 45, some 46, some 47, some 48, none, none, none]) := by decide +kernel
theorem sh44 : SH[44]? = some (18, 4, [some 49, some 51, some 53, some 55]) := by decide +kernel
theorem sh45 : SH[45]? = some (17, 8, [some 57, some 59, some 61, some 63, some 65, some 67, some 69, some 71]) := by decide +kernel
theorem sh46 : SH[46]? = some (14, 8, []) := by decide +kernel
theorem sh47 : SH[47]? = some (14, 8, []) := by decide +kernel
theorem sh48 : SH[48]? = some (16, 8, []) := by decide +kernel
theorem sh49 : SH[49]? = some (6, 4, [some 50, none, none, none]) := by decide +kernel
theorem sh50 : SH[50]? = some (14, 20, []) := by decide +kernel
theorem sh51 : SH[51]? = some (6, 4, [some 52, none, none, none]) := by decide +kernel
theorem sh52 : SH[52]? = some (14, 20, []) := by decide +kernel
theorem sh53 : SH[53]? = some (6, 4, [some 54, none, none, none]) := by decide +kernel
theorem sh54 : SH[54]? = some (14, 20, []) := by decide +kernel
theorem sh55 : SH[55]? = some (6, 4, [some 56, none, none, none]) := by decide +kernel
theorem sh56 : SH[56]? = some (14, 20, []) := by decide +kernel
theorem sh57 : SH[57]? = some (0, 4, [some 58, none, none, none]) := by decide +kernel
theorem sh58 : SH[58]? = some (14, 10, []) := by decide +kernel
theorem sh59 : SH[59]? = some (0, 4, [some 60, none, none, none]) := by decide +kernel
theorem sh60 : SH[60]? = some (14, 10, []) := by decide +kernel
theorem sh61 : SH[61]? = some (0, 4, [some 62, none, none, none]) := by decide +kernel
theorem sh62 : SH[62]? = some (14, 10, []) := by decide +kernel
theorem sh63 : SH[63]? = some (0, 4, [some 64, none, none, none]) := by decide +kernel
theorem sh64 : SH[64]? = some (14, 10, []) := by decide +kernel
theorem sh65 : SH[65]? = some (0, 4, [some 66, none, none, none]) := by decide +kernel
theorem sh66 : SH[66]? = some (14, 10, []) := by decide +kernel
theorem sh67 : SH[67]? = some (0, 4, [some 68, none, none, none]) := by decide +kernel
theorem sh68 : SH[68]? = some (14, 10, []) := by decide +kernel
theorem sh69 : SH[69]? = some (0, 4, [some 70, none, none, none]) := by decide +kernel
theorem sh70 : SH[70]? = some (14, 10, []) := by decide +kernel
theorem sh71 : SH[71]? = some (0, 4, [some 72, none, none, none]) := by decide +kernel
theorem sh72 : SH[72]? = some (14, 10, []) := by decide +kernel
theorem sh73 : SH[73]? = some (7, 8, [some 74, some 75, some 76, some 77, some 78, none, none, none]) := by decide +kernel
theorem sh74 : SH[74]? = some (18, 4, [some 79, some 81, some 83, some 85]) := by decide +kernel
theorem sh75 : SH[75]? = some (17, 8, [some 87, some 89, some 91, some 93, some 95, some 97, some 99, some 101]) := by decide +kernel
theorem sh76 : SH[76]? = some (14, 8, []) := by decide +kernel
theorem sh77 : SH[77]? = some (14, 8, []) := by decide +kernel
theorem sh78 : SH[78]? = some (16, 8, []) := by decide +kernel
theorem sh79 : SH[79]? = some (6, 4, [some 80, none, none, none]) := by decide +kernel
theorem sh80 : SH[80]? = some (14, 20, []) := by decide +kernel
theorem sh81 : SH[81]? = some (6, 4, [some 82, none, none, none]) := by decide +kernel
theorem sh82 : SH[82]? = some (14, 20, []) := by decide +kernel
theorem sh83 : SH[83]? = some (6, 4, [some 84, none, none, none]) := by decide +kernel
theorem sh84 : SH[84]? = some (14, 20, []) := by decide +kernel
theorem sh85 : SH[85]? = some (6, 4, [some 86, none, none, none]) := by decide +kernel
theorem sh86 : SH[86]? = some (14, 20, []) := by decide +kernel
theorem sh87 : SH[87]? = some (0, 4, [some 88, none, none, none]) := by decide +kernel
theorem sh88 : SH[88]? = some (14, 10, []) := by decide +kernel
theorem sh89 : SH[89]? = some (0, 4, [some 90, none, none, none]) := by decide +kernel
theorem sh90 : SH[90]? = some (14, 10, []) := by decide +kernel
theorem sh91 : SH[91]? = some (0, 4, [some 92, none, none, none]) := by decide +kernel
theorem sh92 : SH[92]? = some (14, 10, []) := by decide +kernel
theorem sh93 : SH[93]? = some (0, 4, [some 94, none, none, none]) := by decide +kernel
theorem sh94 : SH[94]? = some (14, 10, []) := by decide +kernel
theorem sh95 : SH[95]? = some (0, 4, [some 96, none, none, none]) := by decide +kernel
theorem sh96 : SH[96]? = some (14, 10, []) := by decide +kernel
theorem sh97 : SH[97]? = some (0, 4, [some 98, none, none, none]) := by decide +kernel
theorem sh98 : SH[98]? = some (14, 10, []) := by decide +kernel
theorem sh99 : SH[99]? = some (0, 4, [some 100, none, none, none]) := by decide +kernel
theorem sh100 : SH[100]? = some (14, 10, []) := by decide +kernel
theorem sh101 : SH[101]? = some (0, 4, [some 102, none, none, none]) := by decide +kernel
theorem sh102 : SH[102]? = some (14, 10, []) := by decide +kernel
theorem sh103 : SH[103]? = some (7, 8, [some 104, some 105, some 106, some 107, some 108, none, none, none]) := by decide +kernel
theorem sh104 : SH[104]? = some (18, 4, [some 109, some 111, some 113, some 115]) := by decide +kernel
theorem sh105 : SH[105]? = some (17, 8, [some 117, some 119, some 121, some 123, some 125, some 127, some 129, some 131]) := by decide +kernel
theorem sh106 : SH[106]? = some (14, 8, []) := by decide +kernel
theorem sh107 : SH[107]? = some (14, 8, []) := by decide +kernel
theorem sh108 : SH[108]? = some (16, 8, []) := by decide +kernel
theorem sh109 : SH[109]? = some (6, 4, [some 110, none, none, none]) := by decide +kernel
theorem sh110 : SH[110]? = some (14, 20, []) := by decide +kernel
theorem sh111 : SH[111]? = some (6, 4, [some 112, none, none, none]) := by decide +kernel
theorem sh112 : SH[112]? = some (14, 20, []) := by decide +kernel
theorem sh113 : SH[113]? = some (6, 4, [some 114, none, none, none]) := by decide +kernel
theorem sh114 : SH[114]? = some (14, 20, []) := by decide +kernel
theorem sh115 : SH[115]? = some (6, 4, [some 116, none, none, none]) := by decide +kernel
theorem sh116 : SH[116]? = some (14, 20, []) := by decide +kernel
theorem sh117 : SH[117]? = some (0, 4, [some 118, none, none, none]) := by decide +kernel
theorem sh118 : SH[118]? = some (14, 10, []) := by decide +kernel
theorem sh119 : SH[119]? = some (0, 4, [some 120, none, none, none]) := by decide +kernel
theorem sh120 : SH[120]? = some (14, 10, []) := by decide +kernel
theorem sh121 : SH[121]? = some (0, 4, [some 122, none, none, none]) := by decide +kernel
theorem sh122 : SH[122]? = some (14, 10, []) := by decide +kernel
theorem sh123 : SH[123]? = some (0, 4, [some 124, none, none, none]) := by decide +kernel
theorem sh124 : SH[124]? = some (14, 10, []) := by decide +kernel
theorem sh125 : SH[125]? = some (0, 4, [some 126, none, none, none]) := by decide +kernel
theorem sh126 : SH[126]? = some (14, 10, []) := by decide +kernel
theorem sh127 : SH[127]? = some (0, 4, [some 128, none, none, none]) := by decide +kernel
theorem sh128 : SH[128]? = some (14, 10, []) := by decide +kernel
theorem sh129 : SH[129]? = some (0, 4, [some 130, none, none, none]) := by decide +kernel
theorem sh130 : SH[130]? = some (14, 10, []) := by decide +kernel
theorem sh131 : SH[131]? = some (0, 4, [some 132, none, none, none]) := by decide +kernel
theorem sh132 : SH[132]? = some (14, 10, []) := by decide +kernel
theorem sh133 : SH[133]? = some (19, 4, [some 249, some 279, some 309, some 339]) := by decide +kernel
theorem sh134 : SH[134]? = some (16, 4, []) := by decide +kernel
theorem sh135 : SH[135]? = some (4, 3, [some 136, some 137, none]) := by decide +kernel
theorem sh136 : SH[136]? = some (14, 1000, []) := by decide +kernel
theorem sh137 : SH[137]? = some (14, 32, []) := by decide +kernel
theorem sh138 : SH[138]? = some (3, 4, [some 139, some 140, some 141, none]) := by decide +kernel
theorem sh139 : SH[139]? = some (14, 30, []) := by decide +kernel
theorem sh140 : SH[140]? = some (14, 30, []) := by decide +kernel
theorem sh141 : SH[141]? = some (14, 30, []) := by decide +kernel
theorem sh142 : SH[142]? = some (3, 4, [some 143, some 144, some 145, none]) := by decide +kernel
theorem sh143 : SH[143]? = some (14, 16, []) := by decide +kernel
theorem sh144 : SH[144]? = some (14, 16, []) := by decide +kernel
theorem sh145 : SH[145]? = some (14, 16, []) := by decide +kernel
theorem sh146 : SH[146]? = some (1, 9, [some 147, some 148, some 149, some 150, none, none, none, none, none]) := by decide +kernel
theorem sh147 : SH[147]? = some (14, 20, []) := by decide +kernel
theorem sh148 : SH[148]? = some (14, 20, []) := by decide +kernel
theorem sh149 : SH[149]? = some (14, 20, []) := by decide +kernel
theorem sh150 : SH[150]? = some (14, 20, []) := by decide +kernel
theorem sh151 : SH[151]? = some (1, 9, [some 152, some 153, some 154, some 155, none, none, none, none, none]) := by decide +kernel
theorem sh152 : SH[152]? = some (14, 20, []) := by decide +kernel
theorem sh153 : SH[153]? = some (14, 20, []) := by decide +kernel
theorem sh154 : SH[154]? = some (14, 20, []) := by decide +kernel
theorem sh155 : SH[155]? = some (14, 20, []) := by decide +kernel
theorem sh156 : SH[156]? = some (10, 3, [some 157, some 179, none]) := by decide +kernel
theorem sh157 : SH[157]? = some (20, 21, [some 158, some 159, some 160, some 161, some 162, some 163, some 164, some 165, some 166, some 167, some 168, some 169, some 170, some 171, some 172, some 173, some 174, some 175, some 176, some 177, some 178]) := by decide +kernel
theorem sh158 : SH[158]? = some (14, 21, []) := by decide +kernel
theorem sh159 : SH[159]? = some (14, 21, []) := by decide +kernel
theorem sh160 : SH[160]? = some (14, 21, []) := by decide +kernel
theorem sh161 : SH[161]? = some (14, 21, []) := by decide +kernel
theorem sh162 : SH[162]? = some (14, 21, []) := by decide +kernel
theorem sh163 : SH[163]? = some (14, 21, []) := by decide +kernel
theorem sh164 : SH[164]? = some (14, 21, []) := by decide +kernel
theorem sh165 : SH[165]? = some (14, 21, []) := by decide +kernel
theorem sh166 : SH[166]? = some (14, 21, []) := by decide +kernel
theorem sh167 : SH[167]? = some (14, 21, []) := by decide +kernel
theorem sh168 : SH[168]? = some (14, 21, []) := by decide +kernel
theorem sh169 : SH[169]? = some (14, 21, []) := by decide +kernel
theorem sh170 : SH[170]? = some (14, 21, []) := by decide +kernel
theorem sh171 : SH[171]? = some (14, 21, []) := by decide +kernel
theorem sh172 : SH[172]? = some (14, 21, []) := by decide +kernel
theorem sh173 : SH[173]? = some (14, 21, []) := by decide +kernel
theorem sh174 : SH[174]? = some (14, 21, []) := by decide +kernel
theorem sh175 : SH[175]? = some (14, 21, []) := by decide +kernel
theorem sh176 : SH[176]? = some (14, 21, []) := by decide +kernel
theorem sh177 : SH[177]? = some (14, 21, []) := by decide +kernel
theorem sh178 : SH[178]? = some (14, 21, []) := by decide +kernel
theorem sh179 : SH[179]? = some (14, 21, []) := by decide +kernel
theorem sh180 : SH[180]? = some (8, 3, [some 181, some 202, some 203]) := by decide +kernel
theorem sh181 : SH[181]? = some (20, 20, [some 182, some 183, some 184, some 185, some 186, some 187, some 188, some 189, some 190, some 191, some 192, some 193, some 194, some 195, some 196, some 197, some 198, some 199, some 200, some 201]) := by decide +kernel
theorem sh182 : SH[182]? = some (14, 20, []) := by decide +kernel
theorem sh183 : SH[183]? = some (14, 20, []) := by decide +kernel
theorem sh184 : SH[184]? = some (14, 20, []) := by decide +kernel
theorem sh185 : SH[185]? = some (14, 20, []) := by decide +kernel
theorem sh186 : SH[186]? = some (14, 20, []) := by decide +kernel
theorem sh187 : SH[187]? = some (14, 20, []) := by decide +kernel
theorem sh188 : SH[188]? = some (14, 20, []) := by decide +kernel
theorem sh189 : SH[189]? = some (14, 20, []) := by decide +kernel
theorem sh190 : SH[190]? = some (14, 20, []) := by decide +kernel
theorem sh191 : SH[191]? = some (14, 20, []) := by decide +kernel
theorem sh192 : SH[192]? = some (14, 20, []) := by decide +kernel
theorem sh193 : SH[193]? = some (14, 20, []) := by decide +kernel
theorem sh194 : SH[194]? = some (14, 20, []) := by decide +kernel
theorem sh195 : SH[195]? = some (14, 20, []) := by decide +kernel
theorem sh196 : SH[196]? = some (14, 20, []) := by decide +kernel
theorem sh197 : SH[197]? = some (14, 20, []) := by decide +kernel
theorem sh198 : SH[198]? = some (14, 20, []) := by decide +kernel
theorem sh199 : SH[199]? = some (14, 20, []) := by decide +kernel
theorem sh200 : SH[200]? = some (14, 20, []) := by decide +kernel
theorem sh201 : SH[201]? = some (14, 20, []) := by decide +kernel
theorem sh202 : SH[202]? = some (14, 20, []) := by decide +kernel
theorem sh203 : SH[203]? = some (14, 20, []) := by decide +kernel
theorem sh204 : SH[204]? = some (2, 6, [some 205, some 207, some 209, some 221, some 233, some 245]) := by decide +kernel
theorem sh205 : SH[205]? = some (0, 4, [some 206, none, none, none]) := by decide +kernel
theorem sh206 : SH[206]? = some (14, 10, []) := by decide +kernel
theorem sh207 : SH[207]? = some (0, 4, [some 208, none, none, none]) := by decide +kernel
theorem sh208 : SH[208]? = some (14, 10, []) := by decide +kernel
theorem sh209 : SH[209]? = some (20, 11, [some 210, some 211, some 212, some 213, some 214, some 215, some 216, some 217, some 218, some 219, some 220]) := by decide +kernel
theorem sh210 : SH[210]? = some (14, 11, []) := by decide +kernel
theorem sh211 : SH[211]? = some (14, 11, []) := by decide +kernel
theorem sh212 : SH[212]? = some (14, 11, []) := by decide +kernel
theorem sh213 : SH[213]? = some (14, 11, []) := by decide +kernel
theorem sh214 : SH[214]? = some (14, 11, []) := by decide +kernel
theorem sh215 : SH[215]? = some (14, 11, []) := by decide +kernel
theorem sh216 : SH[216]? = some (14, 11, []) := by decide +kernel
theorem sh217 : SH[217]? = some (14, 11, []) := by decide +kernel
theorem sh218 : SH[218]? = some (14, 11, []) := by decide +kernel
theorem sh219 : SH[219]? = some (14, 11, []) := by decide +kernel
theorem sh220 : SH[220]? = some (14, 11, []) := by decide +kernel
theorem sh221 : SH[221]? = some (20, 11, [some 222, some 223, some 224, some 225, some 226, some 227, some 228, some 229, some 230, some 231, some 232]) := by decide +kernel
theorem sh222 : SH[222]? = some (14, 11, []) := by decide +kernel
theorem sh223 : SH[223]? = some (14, 11, []) := by decide +kernel
theorem sh224 : SH[224]? = some (14, 11, []) := by decide +kernel
theorem sh225 : SH[225]? = some (14, 11, []) := by decide +kernel
theorem sh226 : SH[226]? = some (14, 11, []) := by decide +kernel
theorem sh227 : SH[227]? = some (14, 11, []) := by decide +kernel
theorem sh228 : SH[228]? = some (14, 11, []) := by decide +kernel
theorem sh229 : SH[229]? = some (14, 11, []) := by decide +kernel
theorem sh230 : SH[230]? = some (14, 11, []) := by decide +kernel
theorem sh231 : SH[231]? = some (14, 11, []) := by decide +kernel
theorem sh232 : SH[232]? = some (14, 11, []) := by decide +kernel
theorem sh233 : SH[233]? = some (20, 11, [some 234, some 235, some 236, some 237, some 238, some 239, some 240, some 241, some 242, some 243, some 244]) := by decide +kernel
theorem sh234 : SH[234]? = some (14, 11, []) := by decide +kernel
theorem sh235 : SH[235]? = some (14, 11, []) := by decide +kernel
theorem sh236 : SH[236]? = some (14, 11, []) := by decide +kernel
theorem sh237 : SH[237]? = some (14, 11, []) := by decide +kernel
theorem sh238 : SH[238]? = some (14, 11, []) := by decide +kernel
theorem sh239 : SH[239]? = some (14, 11, []) := by decide +kernel
theorem sh240 : SH[240]? = some (14, 11, []) := by decide +kernel
theorem sh241 : SH[241]? = some (14, 11, []) := by decide +kernel
theorem sh242 : SH[242]? = some (14, 11, []) := by decide +kernel
theorem sh243 : SH[243]? = some (14, 11, []) := by decide +kernel
theorem sh244 : SH[244]? = some (14, 11, []) := by decide +kernel
theorem sh245 : SH[245]? = some (14, 10, []) := by decide +kernel
theorem sh246 : SH[246]? = some (6, 4, [some 247, none, none, none]) := by decide +kernel
theorem sh247 : SH[247]? = some (14, 20, []) := by decide +kernel
theorem sh248 : SH[248]? = some (14, 21, []) := by decide +kernel
theorem sh249 : SH[249]? = some (7, 8, [some 250, some 251, some 252, some 253, some 254, none, none, none]) := by decide +kernel
theorem sh250 : SH[250]? = some (18, 4, [some 255, some 257, some 259, some 261]) := by decide +kernel
theorem sh251 : SH[251]? = some (17, 8, [some 263, some 265, some 267, some 269, some 271, some 273, some 275, some 277]) := by decide +kernel
theorem sh252 : SH[252]? = some (14, 8, []) := by decide +kernel
theorem sh253 : SH[253]? = some (14, 8, []) := by decide +kernel
theorem sh254 : SH[254]? = some (16, 8, []) := by decide +kernel
theorem sh255 : SH[255]? = some (6, 4, [some 256, none, none, none]) := by decide +kernel
theorem sh256 : SH[256]? = some (14, 20, []) := by decide +kernel
theorem sh257 : SH[257]? = some (6, 4, [some 258, none, none, none]) := by decide +kernel
theorem sh258 : SH[258]? = some (14, 20, []) := by decide +kernel
theorem sh259 : SH[259]? = some (6, 4, [some 260, none, none, none]) := by decide +kernel
theorem sh260 : SH[260]? = some (14, 20, []) := by decide +kernel
theorem sh261 : SH[261]? = some (6, 4, [some 262, none, none, none]) := by decide +kernel
theorem sh262 : SH[262]? = some (14, 20, []) := by decide +kernel
theorem sh263 : SH[263]? = some (0, 4, [some 264, none, none, none]) := by decide +kernel
theorem sh264 : SH[264]? = some (14, 10, []) := by decide +kernel
theorem sh265 : SH[265]? = some (0, 4, [some 266, none, none, none]) := by decide +kernel
theorem sh266 : SH[266]? = some (14, 10, []) := by decide +kernel
theorem sh267 : SH[267]? = some (0, 4, [some 268, none, none, none]) := by decide +kernel
theorem sh268 : SH[268]? = some (14, 10, []) := by decide +kernel
theorem sh269 : SH[269]? = some (0, 4, [some 270, none, none, none]) := by decide +kernel
theorem sh270 : SH[270]? = some (14, 10, []) := by decide +kernel
theorem sh271 : SH[271]? = some (0, 4, [some 272, none, none, none]) := by decide +kernel
theorem sh272 : SH[272]? = some (14, 10, []) := by decide +kernel
theorem sh273 : SH[273]? = some (0, 4, [some 274, none, none, none]) := by decide +kernel
theorem sh274 : SH[274]? = some (14, 10, []) := by decide +kernel
theorem sh275 : SH[275]? = some (0, 4, [some 276, none, none, none]) := by decide +kernel
theorem sh276 : SH[276]? = some (14, 10, []) := by decide +kernel
theorem sh277 : SH[277]? = some (0, 4, [some 278, none, none, none]) := by decide +kernel
theorem sh278 : SH[278]? = some (14, 10, []) := by decide +kernel
theorem sh279 : SH[279]? = some (7, 8, [some 280, some 281, some 282, some 283, some 284, none, none, none]) := by decide +kernel
theorem sh280 : SH[280]? = some (18, 4, [some 285, some 287, some 289, some 291]) := by decide +kernel
theorem sh281 : SH[281]? = some (17, 8, [some 293, some 295, some 297, some 299, some 301, some 303, some 305, some 307]) := by decide +kernel
theorem sh282 : SH[282]? = some (14, 8, []) := by decide +kernel
theorem sh283 : SH[283]? = some (14, 8, []) := by decide +kernel
theorem sh284 : SH[284]? = some (16, 8, []) := by decide +kernel
theorem sh285 : SH[285]? = some (6, 4, [some 286, none, none, none]) := by decide +kernel
theorem sh286 : SH[286]? = some (14, 20, []) := by decide +kernel
theorem sh287 : SH[287]? = some (6, 4, [some 288, none, none, none]) := by decide +kernel
theorem sh288 : SH[288]? = some (14, 20, []) := by decide +kernel
theorem sh289 : SH[289]? = some (6, 4, [some 290, none, none, none]) := by decide +kernel
theorem sh290 : SH[290]? = some (14, 20, []) := by decide +kernel
theorem sh291 : SH[291]? = some (6, 4, [some 292, none, none, none]) := by decide +kernel
theorem sh292 : SH[292]? = some (14, 20, []) := by decide +kernel
theorem sh293 : SH[293]? = some (0, 4, [some 294, none, none, none]) := by decide +kernel
theorem sh294 : SH[294]? = some (14, 10, []) := by decide +kernel
theorem sh295 : SH[295]? = some (0, 4, [some 296, none, none, none]) := by decide +kernel
theorem sh296 : SH[296]? = some (14, 10, []) := by decide +kernel
theorem sh297 : SH[297]? = some (0, 4, [some 298, none, none, none]) := by decide +kernel
theorem sh298 : SH[298]? = some (14, 10, []) := by decide +kernel
theorem sh299 : SH[299]? = some (0, 4, [some 300, none, none, none]) := by decide +kernel
theorem sh300 : SH[300]? = some (14, 10, []) := by decide +kernel
theorem sh301 : SH[301]? = some (0, 4, [some 302, none, none, none]) := by decide +kernel
theorem sh302 : SH[302]? = some (14, 10, []) := by decide +kernel
theorem sh303 : SH[303]? = some (0, 4, [some 304, none, none, none]) := by decide +kernel
theorem sh304 : SH[304]? = some (14, 10, []) := by decide +kernel
theorem sh305 : SH[305]? = some (0, 4, [some 306, none, none, none]) := by decide +kernel
theorem sh306 : SH[306]? = some (14, 10, []) := by decide +kernel
theorem sh307 : SH[307]? = some (0, 4, [some 308, none, none, none]) := by decide +kernel
theorem sh308 : SH[308]? = some (14, 10, []) := by decide +kernel
theorem sh309 : SH[309]? = some (7, 8, [some 310, some 311, some 312, some 313, some 314, none, none, none]) := by decide +kernel
theorem sh310 : SH[310]? = some (18, 4, [some 315, some 317, some 319, some 321]) := by decide +kernel
theorem sh311 : SH[311]? = some (17, 8, [some 323, some 325, some 327, some 329, some 331, some 333, some 335, some 337]) := by decide +kernel
theorem sh312 : SH[312]? = some (14, 8, []) := by decide +kernel
theorem sh313 : SH[313]? = some (14, 8, []) := by decide +kernel
theorem sh314 : SH[314]? = some (16, 8, []) := by decide +kernel
theorem sh315 : SH[315]? = some (6, 4, [some 316, none, none, none]) := by decide +kernel
theorem sh316 : SH[316]? = some (14, 20, []) := by decide +kernel
theorem sh317 : SH[317]? = some (6, 4, [some 318, none, none, none]) := by decide +kernel
theorem sh318 : SH[318]? = some (14, 20, []) := by decide +kernel
theorem sh319 : SH[319]? = some (6, 4, [some 320, none, none, none]) := by decide +kernel
theorem sh320 : SH[320]? = some (14, 20, []) := by decide +kernel
theorem sh321 : SH[321]? = some (6, 4, [some 322, none, none, none]) := by decide +kernel
theorem sh322 : SH[322]? = some (14, 20, []) := by decide +kernel
theorem sh323 : SH[323]? = some (0, 4, [some 324, none, none, none]) := by decide +kernel
theorem sh324 : SH[324]? = some (14, 10, []) := by decide +kernel
theorem sh325 : SH[325]? = some (0, 4, [some 326, none, none, none]) := by decide +kernel
theorem sh326 : SH[326]? = some (14, 10, []) := by decide +kernel
theorem sh327 : SH[327]? = some (0, 4, [some 328, none, none, none]) := by decide +kernel
theorem sh328 : SH[328]? = some (14, 10, []) := by decide +kernel
theorem sh329 : SH[329]? = some (0, 4, [some 330, none, none, none]) := by decide +kernel
theorem sh330 : SH[330]? = some (14, 10, []) := by decide +kernel
theorem sh331 : SH[331]? = some (0, 4, [some 332, none, none, none]) := by decide +kernel
theorem sh332 : SH[332]? = some (14, 10, []) := by decide +kernel
theorem sh333 : SH[333]? = some (0, 4, [some 334, none, none, none]) := by decide +kernel
theorem sh334 : SH[334]? = some (14, 10, []) := by decide +kernel
theorem sh335 : SH[335]? = some (0, 4, [some 336, none, none, none]) := by decide +kernel
theorem sh336 : SH[336]? = some (14, 10, []) := by decide +kernel
theorem sh337 : SH[337]? = some (0, 4, [some 338, none, none, none]) := by decide +kernel
theorem sh338 : SH[338]? = some (14, 10, []) := by decide +kernel
theorem sh339 : SH[339]? = some (7, 8, [some 340, some 341, some 342, some 343, some 344, none, none, none]) := by decide +kernel
theorem sh340 : SH[340]? = some (18, 4, [some 345, some 347, some 349, some 351]) := by decide +kernel
theorem sh341 : SH[341]? = some (17, 8, [some 353, some 355, some 357, some 359, some 361, some 363, some 365, some 367]) := by decide +kernel
theorem sh342 : SH[342]? = some (14, 8, []) := by decide +kernel
theorem sh343 : SH[343]? = some (14, 8, []) := by decide +kernel
theorem sh344 : SH[344]? = some (16, 8, []) := by decide +kernel
theorem sh345 : SH[345]? = some (6, 4, [some 346, none, none, none]) := by decide +kernel
theorem sh346 : SH[346]? = some (14, 20, []) := by decide +kernel
theorem sh347 : SH[347]? = some (6, 4, [some 348, none, none, none]) := by decide +kernel
theorem sh348 : SH[348]? = some (14, 20, []) := by decide +kernel
theorem sh349 : SH[349]? = some (6, 4, [some 350, none, none, none]) := by decide +kernel
theorem sh350 : SH[350]? = some (14, 20, []) := by decide +kernel
theorem sh351 : SH[351]? = some (6, 4, [some 352, none, none, none]) := by decide +kernel
theorem sh352 : SH[352]? = some (14, 20, []) := by decide +kernel
theorem sh353 : SH[353]? = some (0, 4, [some 354, none, none, none]) := by decide +kernel
theorem sh354 : SH[354]? = some (14, 10, []) := by decide +kernel
theorem sh355 : SH[355]? = some (0, 4, [some 356, none, none, none]) := by decide +kernel
theorem sh356 : SH[356]? = some (14, 10, []) := by decide +kernel
theorem sh357 : SH[357]? = some (0, 4, [some 358, none, none, none]) := by decide +kernel
theorem sh358 : SH[358]? = some (14, 10, []) := by decide +kernel
theorem sh359 : SH[359]? = some (0, 4, [some 360, none, none, none]) := by decide +kernel
theorem sh360 : SH[360]? = some (14, 10, []) := by decide +kernel
theorem sh361 : SH[361]? = some (0, 4, [some 362, none, none, none]) := by decide +kernel
theorem sh362 : SH[362]? = some (14, 10, []) := by decide +kernel
theorem sh363 : SH[363]? = some (0, 4, [some 364, none, none, none]) := by decide +kernel
theorem sh364 : SH[364]? = some (14, 10, []) := by decide +kernel
theorem sh365 : SH[365]? = some (0, 4, [some 366, none, none, none]) := by decide +kernel
theorem sh366 : SH[366]? = some (14, 10, []) := by decide +kernel
theorem sh367 : SH[367]? = some (0, 4, [some 368, none, none, none]) := by decide +kernel
theorem sh368 : SH[368]? = some (14, 10, []) := by decide +kernel
theorem sh369 : SH[369]? = some (12, 42, [none, some 370, none, none, some 371, some 372, some 373, none, none, some 374, some 375, some 376, none, some 377, some 378, some 379, some 380, some 381, none, none, some 382, some 383, none, none, some 384, some 385, some 386, some 387, some 388, some 389, some 390, some 391, some 392, some 393, some 394, some 395, some 396, some 397, some 398, some 399, some 400, none]) := by decide +kernel
theorem sh370 : SH[370]? = some (14, 1000, []) := by decide +kernel
theorem sh371 : SH[371]? = some (14, 1002, []) := by decide +kernel
theorem sh372 : SH[372]? = some (14, 1002, []) := by decide +kernel
theorem sh373 : SH[373]? = some (15, 1002, []) := by decide +kernel
theorem sh374 : SH[374]? = some (15, 19, []) := by decide +kernel
theorem sh375 : SH[375]? = some (14, 280, []) := by decide +kernel
theorem sh376 : SH[376]? = some (14, 2200, []) := by decide +kernel
theorem sh377 : SH[377]? = some (15, 16, []) := by decide +kernel
theorem sh378 : SH[378]? = some (14, 190, []) := by decide +kernel
theorem sh379 : SH[379]? = some (14, 4, []) := by decide +kernel
theorem sh380 : SH[380]? = some (14, 64, []) := by decide +kernel
theorem sh381 : SH[381]? = some (14, 4532, []) := by decide +kernel
theorem sh382 : SH[382]? = some (16, 4, []) := by decide +kernel
theorem sh383 : SH[383]? = some (14, 20, []) := by decide +kernel
theorem sh384 : SH[384]? = some (14, 441, []) := by decide +kernel
theorem sh385 : SH[385]? = some (14, 20, []) := by decide +kernel
theorem sh386 : SH[386]? = some (14, 20, []) := by decide +kernel
theorem sh387 : SH[387]? = some (15, 20, []) := by decide +kernel
theorem sh388 : SH[388]? = some (14, 20, []) := by decide +kernel
theorem sh389 : SH[389]? = some (14, 20, []) := by decide +kernel
theorem sh390 : SH[390]? = some (14, 420, []) := by decide +kernel
theorem sh391 : SH[391]? = some (14, 21, []) := by decide +kernel
theorem sh392 : SH[392]? = some (14, 20, []) := by decide +kernel
theorem sh393 : SH[393]? = some (14, 21, []) := by decide +kernel
theorem sh394 : SH[394]? = some (14, 10, []) := by decide +kernel
theorem sh395 : SH[395]? = some (14, 10, []) := by decide +kernel
theorem sh396 : SH[396]? = some (14, 10, []) := by decide +kernel
theorem sh397 : SH[397]? = some (14, 121, []) := by decide +kernel
theorem sh398 : SH[398]? = some (14, 121, []) := by decide +kernel
theorem sh399 : SH[399]? = some (14, 121, []) := by decide +kernel
theorem sh400 : SH[400]? = some (14, 21, []) := by decide +kernel
theorem sh401 : SH[401]? = some (15, 1, []) := by decide +kernel
