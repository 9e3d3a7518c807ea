/-! the law's words are the tables' -/
theorem lin_of {big : List Cond} (ws : List Cond) (ps : List Nat) (hp : ws = ps.filterMap (fun i => big[i]?)) : ∀ w ∈ ws, w ∈ big := by
  intro w hw
  rw [hp] at hw
  obtain ⟨i, -, hi⟩ := List.mem_filterMap.mp hw
  exact List.mem_of_getElem? hi
set_option maxRecDepth 20000 in
theorem lin_wsL_law_r1 : ∀ w ∈ wsL_law_r1, w ∈ lw_tbl := lin_of _ [21, 22, 15, 322, 323, 18, 319, 320, 14, 321, 23, 24, 25, 26, 27, 28, 29, 30, 16, 52, 53, 54, 55, 56] (by decide +kernel)
set_option maxRecDepth 20000 in
theorem lin_wsL_law_r2 : ∀ w ∈ wsL_law_r2, w ∈ lw_tbl := lin_of _ [57, 58, 59, 60, 31, 32, 33, 34, 43, 35, 36, 17, 37, 38, 39, 40, 51, 41, 42, 324, 325, 326, 327, 328] (by decide +kernel)
set_option maxRecDepth 20000 in
theorem lin_wsL_law_r3 : ∀ w ∈ wsL_law_r3, w ∈ lw_tbl := lin_of _ [329, 19, 352, 353, 354, 355, 356, 357, 351, 358, 359, 331, 332, 333, 334, 336, 338, 80, 81, 82, 83, 84, 85, 86] (by decide +kernel)
set_option maxRecDepth 20000 in
theorem lin_wsL_law_r4 : ∀ w ∈ wsL_law_r4, w ∈ lw_tbl := lin_of _ [87, 88, 89, 90, 91, 92, 93, 94, 95, 96, 98, 0, 99, 100, 102, 1, 103, 104, 105, 106, 107, 108, 110, 109] (by decide +kernel)
set_option maxRecDepth 20000 in
theorem lin_wsL_law_r5 : ∀ w ∈ wsL_law_r5, w ∈ lw_tbl := lin_of _ [20, 383, 384, 385, 386, 341, 339, 387, 388, 389, 390, 340, 391, 392, 393, 394, 111, 112, 113, 114, 115, 116, 117, 118] (by decide +kernel)
set_option maxRecDepth 20000 in
theorem lin_wsL_law_r6 : ∀ w ∈ wsL_law_r6, w ∈ lw_tbl := lin_of _ [119, 120, 121, 122, 123, 395, 396, 397, 398, 399, 400, 401, 402, 124, 125, 126, 127, 128, 129, 130, 131, 132, 133, 134] (by decide +kernel)
set_option maxRecDepth 20000 in
theorem lin_wsL_law_r7 : ∀ w ∈ wsL_law_r7, w ∈ lw_tbl := lin_of _ [135, 136, 403, 404, 405, 406, 407, 408, 409, 410, 137, 138, 139, 140, 149, 141, 142, 143, 144, 145, 146, 147, 148, 150] (by decide +kernel)
set_option maxRecDepth 20000 in
theorem lin_wsL_law_r8 : ∀ w ∈ wsL_law_r8, w ∈ lw_tbl := lin_of _ [151, 152, 153, 154, 155, 156, 411, 412, 413, 414, 415, 335, 337, 157, 158, 159, 160, 161, 162, 163, 164, 165, 166, 167] (by decide +kernel)
set_option maxRecDepth 20000 in
theorem lin_wsL_law_r9 : ∀ w ∈ wsL_law_r9, w ∈ lw_tbl := lin_of _ [168, 169, 170, 171, 416, 417, 418, 419, 172, 173, 174, 175, 176, 177, 178, 179, 180, 181, 182, 183, 420, 421, 422, 423] (by decide +kernel)
set_option maxRecDepth 20000 in
theorem lin_wsL_law_r10 : ∀ w ∈ wsL_law_r10, w ∈ lw_tbl := lin_of _ [184, 185, 186, 187, 424, 425, 426, 427, 188, 189, 190, 191, 192, 428, 429, 430, 431, 193, 194, 195, 196, 197, 198, 199] (by decide +kernel)
set_option maxRecDepth 20000 in
theorem lin_wsL_law_r11 : ∀ w ∈ wsL_law_r11, w ∈ lw_tbl := lin_of _ [200, 201, 432, 433, 434, 435, 202, 203, 204, 205, 436, 437, 438, 439, 206, 207, 208, 209, 216, 210, 211, 212, 213, 214] (by decide +kernel)
set_option maxRecDepth 20000 in
theorem lin_wsL_law_r12 : ∀ w ∈ wsL_law_r12, w ∈ lw_tbl := lin_of _ [215, 440, 441, 442, 443, 451, 444, 446, 6, 447, 448, 449, 450, 217, 218, 219, 220, 452, 453, 454, 455, 221, 222, 223] (by decide +kernel)
set_option maxRecDepth 20000 in
theorem lin_wsL_law_r13 : ∀ w ∈ wsL_law_r13, w ∈ lw_tbl := lin_of _ [224, 456, 457, 458, 459, 225, 226, 227, 228, 229, 230, 231, 232, 233, 234, 235, 236, 237, 460, 461, 462, 463, 361, 238] (by decide +kernel)
set_option maxRecDepth 20000 in
theorem lin_wsL_law_r14 : ∀ w ∈ wsL_law_r14, w ∈ lw_tbl := lin_of _ [239, 240, 241, 242, 244, 2, 245, 464, 465, 466, 467, 246, 247, 248, 249, 250, 468, 469, 470, 471, 360, 472, 474, 7] (by decide +kernel)
set_option maxRecDepth 20000 in
theorem lin_wsL_law_r15 : ∀ w ∈ wsL_law_r15, w ∈ lw_tbl := lin_of _ [475, 476, 478, 8, 479, 480, 482, 9, 483, 484, 486, 10, 487, 488, 490, 11, 491, 251, 252, 253, 254, 492, 493, 494] (by decide +kernel)
set_option maxRecDepth 20000 in
theorem lin_wsL_law_r16 : ∀ w ∈ wsL_law_r16, w ∈ lw_tbl := lin_of _ [495, 255, 256, 257, 258, 496, 497, 498, 499, 500, 502, 12, 503, 259, 260, 261, 262, 504, 505, 506, 507, 263, 264, 265] (by decide +kernel)
set_option maxRecDepth 20000 in
theorem lin_wsL_law_r17 : ∀ w ∈ wsL_law_r17, w ∈ lw_tbl := lin_of _ [266, 267, 508, 509, 510, 511, 268, 269, 270, 271, 512, 513, 514, 515, 272, 273, 274, 275, 516, 517, 518, 519, 276, 277] (by decide +kernel)
set_option maxRecDepth 20000 in
theorem lin_wsL_law_r18 : ∀ w ∈ wsL_law_r18, w ∈ lw_tbl := lin_of _ [278, 279, 280, 282, 3, 283, 284, 286, 4, 287, 288, 290, 5, 291, 292, 293, 520, 521, 522, 523, 524, 294, 295, 296] (by decide +kernel)
set_option maxRecDepth 20000 in
theorem lin_wsL_law_r19 : ∀ w ∈ wsL_law_r19, w ∈ lw_tbl := lin_of _ [297, 525, 526, 527, 528, 298, 299, 300, 301, 529, 530, 531, 532, 302, 303, 304, 305, 306, 533, 534, 535, 536, 307, 308] (by decide +kernel)
set_option maxRecDepth 20000 in
theorem lin_wsL_law_r20 : ∀ w ∈ wsL_law_r20, w ∈ lw_tbl := lin_of _ [309, 310, 311, 312, 313, 314, 537, 538, 539, 540, 541, 543, 13, 544, 315, 316, 317, 318, 545, 546, 547, 548] (by decide +kernel)
set_option maxRecDepth 20000 in
theorem inX1 : ∀ w ∈ wsX10, w ∈ lw_tbl := by decide +kernel
set_option maxRecDepth 20000 in
theorem inX3 : ∀ w ∈ wsX30, w ∈ lw_tbl := by decide +kernel
set_option maxRecDepth 20000 in
theorem inX0 : ∀ w ∈ wsX00, w ∈ lw_tbl := by decide +kernel
set_option maxRecDepth 20000 in
theorem inX2 : ∀ w ∈ wsX20, w ∈ lw_tbl := by decide +kernel
theorem lin_ap {big a b : List Cond} (h1 : ∀ w ∈ a, w ∈ big) (h2 : ∀ w ∈ b, w ∈ big) : ∀ w ∈ a ++ b, w ∈ big := fun w h => (List.mem_append.mp h).elim (h1 w) (h2 w)
theorem wsL_law_in : ∀ w ∈ wsL_law, w ∈ lw_tbl := lin_ap (lin_ap (lin_ap (lin_ap (lin_ap (lin_ap lin_wsL_law_r1 (lin_ap lin_wsL_law_r2 (lin_ap lin_wsL_law_r3 (lin_ap lin_wsL_law_r4 (lin_ap lin_wsL_law_r5 (lin_ap lin_wsL_law_r6 (lin_ap lin_wsL_law_r7 (lin_ap lin_wsL_law_r8 (lin_ap lin_wsL_law_r9 (lin_ap lin_wsL_law_r10 (lin_ap lin_wsL_law_r11 (lin_ap lin_wsL_law_r12 (lin_ap lin_wsL_law_r13 (lin_ap lin_wsL_law_r14 (lin_ap lin_wsL_law_r15 (lin_ap lin_wsL_law_r16 (lin_ap lin_wsL_law_r17 (lin_ap lin_wsL_law_r18 (lin_ap lin_wsL_law_r19 lin_wsL_law_r20))))))))))))))))))) inX1) inX3) inX0) inX2) (fun _ h => absurd h List.not_mem_nil)
